section
-- ===== PART A: goes FIRST, ahead of the names: the tables' words, and 'selects' of the private methods out of them =====
/-- a private method of a class that the tables say can be made, by its rows of tables_1 -/
def lw_okq (q : MethodName × Nat) : Prop := (q.1.cls ≠ "java/lang/invoke/MethodHandle" ∧ q.1.cls ≠ "java/lang/invoke/VarHandle") ∧ Cond.instantiable q.1.cls q.2 ∈ tables_1 ∧ Cond.privateMethod q.1 ∈ tables_1 ∧ Cond.instanceMethod q.1 ∈ tables_1
theorem lw_p0 : lw_okq (⟨"WordWheel$Words", "become", "(II)V"⟩, 5) := ⟨⟨by decide +kernel, by decide +kernel⟩, List.mem_of_getElem? (i := 23) (by decide +kernel), List.mem_of_getElem? (i := 29) (by decide +kernel), List.mem_of_getElem? (i := 30) (by decide +kernel)⟩
theorem lw_p1 : lw_okq (⟨"WordWheel$Register", "becomeTurning", "()V"⟩, 14) := ⟨⟨by decide +kernel, by decide +kernel⟩, List.mem_of_getElem? (i := 87) (by decide +kernel), List.mem_of_getElem? (i := 93) (by decide +kernel), List.mem_of_getElem? (i := 94) (by decide +kernel)⟩
theorem lw_p2 : lw_okq (⟨"WordWheel$Register", "forgetExchanges", "()V"⟩, 14) := ⟨⟨by decide +kernel, by decide +kernel⟩, List.mem_of_getElem? (i := 87) (by decide +kernel), List.mem_of_getElem? (i := 100) (by decide +kernel), List.mem_of_getElem? (i := 101) (by decide +kernel)⟩
theorem lw_p3 : lw_okq (⟨"WordWheel$Round", "drop", "()V"⟩, 8) := ⟨⟨by decide +kernel, by decide +kernel⟩, List.mem_of_getElem? (i := 148) (by decide +kernel), List.mem_of_getElem? (i := 286) (by decide +kernel), List.mem_of_getElem? (i := 287) (by decide +kernel)⟩
theorem lw_p4 : lw_okq (⟨"WordWheel$Words", "has", "(I)Z"⟩, 5) := ⟨⟨by decide +kernel, by decide +kernel⟩, List.mem_of_getElem? (i := 23) (by decide +kernel), List.mem_of_getElem? (i := 294) (by decide +kernel), List.mem_of_getElem? (i := 295) (by decide +kernel)⟩
theorem lw_p5 : lw_okq (⟨"WordWheel$Words", "turned", "(II)I"⟩, 5) := ⟨⟨by decide +kernel, by decide +kernel⟩, List.mem_of_getElem? (i := 23) (by decide +kernel), List.mem_of_getElem? (i := 298) (by decide +kernel), List.mem_of_getElem? (i := 299) (by decide +kernel)⟩
theorem lw_p6 : lw_okq (⟨"WordWheel$Words", "leastOf", "(I)I"⟩, 5) := ⟨⟨by decide +kernel, by decide +kernel⟩, List.mem_of_getElem? (i := 23) (by decide +kernel), List.mem_of_getElem? (i := 306) (by decide +kernel), List.mem_of_getElem? (i := 307) (by decide +kernel)⟩
theorem lw_p7 : lw_okq (⟨"WordWheel$Words", "turnedOnce", "(I)I"⟩, 5) := ⟨⟨by decide +kernel, by decide +kernel⟩, List.mem_of_getElem? (i := 23) (by decide +kernel), List.mem_of_getElem? (i := 310) (by decide +kernel), List.mem_of_getElem? (i := 311) (by decide +kernel)⟩
theorem lw_p8 : lw_okq (⟨"WordWheel$Words", "stepsToLeast", "(I)I"⟩, 5) := ⟨⟨by decide +kernel, by decide +kernel⟩, List.mem_of_getElem? (i := 23) (by decide +kernel), List.mem_of_getElem? (i := 321) (by decide +kernel), List.mem_of_getElem? (i := 322) (by decide +kernel)⟩
theorem lw_p9 : lw_okq (⟨"WordWheel$Words", "ringSize", "(I)I"⟩, 5) := ⟨⟨by decide +kernel, by decide +kernel⟩, List.mem_of_getElem? (i := 23) (by decide +kernel), List.mem_of_getElem? (i := 329) (by decide +kernel), List.mem_of_getElem? (i := 330) (by decide +kernel)⟩
theorem lw_p10 : lw_okq (⟨"WordWheel$Words", "backward", "(I)I"⟩, 5) := ⟨⟨by decide +kernel, by decide +kernel⟩, List.mem_of_getElem? (i := 23) (by decide +kernel), List.mem_of_getElem? (i := 337) (by decide +kernel), List.mem_of_getElem? (i := 338) (by decide +kernel)⟩
theorem lw_p11 : lw_okq (⟨"WordWheel$RingCounter", "ringsUpTo", "(I)I"⟩, 4) := ⟨⟨by decide +kernel, by decide +kernel⟩, List.mem_of_getElem? (i := 68) (by decide +kernel), List.mem_of_getElem? (i := 345) (by decide +kernel), List.mem_of_getElem? (i := 346) (by decide +kernel)⟩
theorem lw_p12 : lw_okq (⟨"WordWheel$RingCounter", "greatestRepeated", "(II)I"⟩, 4) := ⟨⟨by decide +kernel, by decide +kernel⟩, List.mem_of_getElem? (i := 68) (by decide +kernel), List.mem_of_getElem? (i := 351) (by decide +kernel), List.mem_of_getElem? (i := 352) (by decide +kernel)⟩
theorem lw_p13 : lw_okq (⟨"WordWheel$RingCounter", "wordsUpTo", "(II)I"⟩, 4) := ⟨⟨by decide +kernel, by decide +kernel⟩, List.mem_of_getElem? (i := 68) (by decide +kernel), List.mem_of_getElem? (i := 355) (by decide +kernel), List.mem_of_getElem? (i := 356) (by decide +kernel)⟩
theorem lw_p14 : lw_okq (⟨"WordWheel$RingCounter", "lowerToBeginning", "(I)V"⟩, 4) := ⟨⟨by decide +kernel, by decide +kernel⟩, List.mem_of_getElem? (i := 68) (by decide +kernel), List.mem_of_getElem? (i := 359) (by decide +kernel), List.mem_of_getElem? (i := 360) (by decide +kernel)⟩
theorem lw_p15 : lw_okq (⟨"WordWheel$RingCounter", "firstFault", "(I)I"⟩, 4) := ⟨⟨by decide +kernel, by decide +kernel⟩, List.mem_of_getElem? (i := 68) (by decide +kernel), List.mem_of_getElem? (i := 363) (by decide +kernel), List.mem_of_getElem? (i := 364) (by decide +kernel)⟩
def lw_privs_1 : List (MethodName × Nat) := [(⟨"WordWheel$Words", "become", "(II)V"⟩, 5), (⟨"WordWheel$Register", "becomeTurning", "()V"⟩, 14), (⟨"WordWheel$Register", "forgetExchanges", "()V"⟩, 14), (⟨"WordWheel$Round", "drop", "()V"⟩, 8), (⟨"WordWheel$Words", "has", "(I)Z"⟩, 5), (⟨"WordWheel$Words", "turned", "(II)I"⟩, 5), (⟨"WordWheel$Words", "leastOf", "(I)I"⟩, 5), (⟨"WordWheel$Words", "turnedOnce", "(I)I"⟩, 5), (⟨"WordWheel$Words", "stepsToLeast", "(I)I"⟩, 5), (⟨"WordWheel$Words", "ringSize", "(I)I"⟩, 5), (⟨"WordWheel$Words", "backward", "(I)I"⟩, 5), (⟨"WordWheel$RingCounter", "ringsUpTo", "(I)I"⟩, 4), (⟨"WordWheel$RingCounter", "greatestRepeated", "(II)I"⟩, 4), (⟨"WordWheel$RingCounter", "wordsUpTo", "(II)I"⟩, 4), (⟨"WordWheel$RingCounter", "lowerToBeginning", "(I)V"⟩, 4), (⟨"WordWheel$RingCounter", "firstFault", "(I)I"⟩, 4)]
theorem lw_r1 : ∀ q ∈ lw_privs_1, lw_okq q := List.forall_mem_cons.mpr ⟨lw_p0, List.forall_mem_cons.mpr ⟨lw_p1, List.forall_mem_cons.mpr ⟨lw_p2, List.forall_mem_cons.mpr ⟨lw_p3, List.forall_mem_cons.mpr ⟨lw_p4, List.forall_mem_cons.mpr ⟨lw_p5, List.forall_mem_cons.mpr ⟨lw_p6, List.forall_mem_cons.mpr ⟨lw_p7, List.forall_mem_cons.mpr ⟨lw_p8, List.forall_mem_cons.mpr ⟨lw_p9, List.forall_mem_cons.mpr ⟨lw_p10, List.forall_mem_cons.mpr ⟨lw_p11, List.forall_mem_cons.mpr ⟨lw_p12, List.forall_mem_cons.mpr ⟨lw_p13, List.forall_mem_cons.mpr ⟨lw_p14, List.forall_mem_cons.mpr ⟨lw_p15, fun _ h => absurd h List.not_mem_nil⟩⟩⟩⟩⟩⟩⟩⟩⟩⟩⟩⟩⟩⟩⟩⟩
theorem lw_p16 : lw_okq (⟨"WordWheel$RingCounter", "wordsAboveRow", "(I)I"⟩, 4) := ⟨⟨by decide +kernel, by decide +kernel⟩, List.mem_of_getElem? (i := 68) (by decide +kernel), List.mem_of_getElem? (i := 373) (by decide +kernel), List.mem_of_getElem? (i := 374) (by decide +kernel)⟩
theorem lw_p17 : lw_okq (⟨"WordWheel$RingCounter", "greaterThan", "(I)I"⟩, 4) := ⟨⟨by decide +kernel, by decide +kernel⟩, List.mem_of_getElem? (i := 68) (by decide +kernel), List.mem_of_getElem? (i := 377) (by decide +kernel), List.mem_of_getElem? (i := 378) (by decide +kernel)⟩
theorem lw_p18 : lw_okq (⟨"WordWheel$RingCounter", "leastOfRing", "(I)I"⟩, 4) := ⟨⟨by decide +kernel, by decide +kernel⟩, List.mem_of_getElem? (i := 68) (by decide +kernel), List.mem_of_getElem? (i := 390) (by decide +kernel), List.mem_of_getElem? (i := 391) (by decide +kernel)⟩
theorem lw_p19 : lw_okq (⟨"WordWheel$RingCounter", "takeAmounts", "(IIIII)Z"⟩, 4) := ⟨⟨by decide +kernel, by decide +kernel⟩, List.mem_of_getElem? (i := 68) (by decide +kernel), List.mem_of_getElem? (i := 404) (by decide +kernel), List.mem_of_getElem? (i := 405) (by decide +kernel)⟩
theorem lw_p20 : lw_okq (⟨"WordWheel$Words", "isLetter", "(I)Z"⟩, 5) := ⟨⟨by decide +kernel, by decide +kernel⟩, List.mem_of_getElem? (i := 23) (by decide +kernel), List.mem_of_getElem? (i := 408) (by decide +kernel), List.mem_of_getElem? (i := 409) (by decide +kernel)⟩
theorem lw_p21 : lw_okq (⟨"WordWheel$RingCounter", "ringsOfAmounts", "()I"⟩, 4) := ⟨⟨by decide +kernel, by decide +kernel⟩, List.mem_of_getElem? (i := 68) (by decide +kernel), List.mem_of_getElem? (i := 412) (by decide +kernel), List.mem_of_getElem? (i := 413) (by decide +kernel)⟩
theorem lw_p22 : lw_okq (⟨"WordWheel$RingCounter", "allDivisible", "(I)Z"⟩, 4) := ⟨⟨by decide +kernel, by decide +kernel⟩, List.mem_of_getElem? (i := 68) (by decide +kernel), List.mem_of_getElem? (i := 416) (by decide +kernel), List.mem_of_getElem? (i := 417) (by decide +kernel)⟩
theorem lw_p23 : lw_okq (⟨"WordWheel$RingCounter", "arrangements", "(I)J"⟩, 4) := ⟨⟨by decide +kernel, by decide +kernel⟩, List.mem_of_getElem? (i := 68) (by decide +kernel), List.mem_of_getElem? (i := 420) (by decide +kernel), List.mem_of_getElem? (i := 421) (by decide +kernel)⟩
theorem lw_p24 : lw_okq (⟨"WordWheel$Register", "changeFactor", "(II)I"⟩, 14) := ⟨⟨by decide +kernel, by decide +kernel⟩, List.mem_of_getElem? (i := 87) (by decide +kernel), List.mem_of_getElem? (i := 429) (by decide +kernel), List.mem_of_getElem? (i := 430) (by decide +kernel)⟩
theorem lw_p25 : lw_okq (⟨"WordWheel$Register", "changeSum", "(I)I"⟩, 14) := ⟨⟨by decide +kernel, by decide +kernel⟩, List.mem_of_getElem? (i := 87) (by decide +kernel), List.mem_of_getElem? (i := 437) (by decide +kernel), List.mem_of_getElem? (i := 438) (by decide +kernel)⟩
theorem lw_p26 : lw_okq (⟨"WordWheel$Register", "leadOf", "(I)I"⟩, 14) := ⟨⟨by decide +kernel, by decide +kernel⟩, List.mem_of_getElem? (i := 87) (by decide +kernel), List.mem_of_getElem? (i := 445) (by decide +kernel), List.mem_of_getElem? (i := 446) (by decide +kernel)⟩
theorem lw_p27 : lw_okq (⟨"WordWheel$Register", "leads", "()[I"⟩, 14) := ⟨⟨by decide +kernel, by decide +kernel⟩, List.mem_of_getElem? (i := 87) (by decide +kernel), List.mem_of_getElem? (i := 449) (by decide +kernel), List.mem_of_getElem? (i := 450) (by decide +kernel)⟩
theorem lw_p28 : lw_okq (⟨"WordWheel$Register", "fillComing", "()V"⟩, 14) := ⟨⟨by decide +kernel, by decide +kernel⟩, List.mem_of_getElem? (i := 87) (by decide +kernel), List.mem_of_getElem? (i := 453) (by decide +kernel), List.mem_of_getElem? (i := 454) (by decide +kernel)⟩
theorem lw_p29 : lw_okq (⟨"WordWheel$Register", "isRight", "()Z"⟩, 14) := ⟨⟨by decide +kernel, by decide +kernel⟩, List.mem_of_getElem? (i := 87) (by decide +kernel), List.mem_of_getElem? (i := 461) (by decide +kernel), List.mem_of_getElem? (i := 462) (by decide +kernel)⟩
theorem lw_p30 : lw_okq (⟨"WordWheel$Words", "differInFirst", "(II)Z"⟩, 5) := ⟨⟨by decide +kernel, by decide +kernel⟩, List.mem_of_getElem? (i := 23) (by decide +kernel), List.mem_of_getElem? (i := 469) (by decide +kernel), List.mem_of_getElem? (i := 470) (by decide +kernel)⟩
theorem lw_p31 : lw_okq (⟨"WordWheel$Register", "isFull", "()Z"⟩, 14) := ⟨⟨by decide +kernel, by decide +kernel⟩, List.mem_of_getElem? (i := 87) (by decide +kernel), List.mem_of_getElem? (i := 473) (by decide +kernel), List.mem_of_getElem? (i := 474) (by decide +kernel)⟩
def lw_privs_2 : List (MethodName × Nat) := [(⟨"WordWheel$RingCounter", "wordsAboveRow", "(I)I"⟩, 4), (⟨"WordWheel$RingCounter", "greaterThan", "(I)I"⟩, 4), (⟨"WordWheel$RingCounter", "leastOfRing", "(I)I"⟩, 4), (⟨"WordWheel$RingCounter", "takeAmounts", "(IIIII)Z"⟩, 4), (⟨"WordWheel$Words", "isLetter", "(I)Z"⟩, 5), (⟨"WordWheel$RingCounter", "ringsOfAmounts", "()I"⟩, 4), (⟨"WordWheel$RingCounter", "allDivisible", "(I)Z"⟩, 4), (⟨"WordWheel$RingCounter", "arrangements", "(I)J"⟩, 4), (⟨"WordWheel$Register", "changeFactor", "(II)I"⟩, 14), (⟨"WordWheel$Register", "changeSum", "(I)I"⟩, 14), (⟨"WordWheel$Register", "leadOf", "(I)I"⟩, 14), (⟨"WordWheel$Register", "leads", "()[I"⟩, 14), (⟨"WordWheel$Register", "fillComing", "()V"⟩, 14), (⟨"WordWheel$Register", "isRight", "()Z"⟩, 14), (⟨"WordWheel$Words", "differInFirst", "(II)Z"⟩, 5), (⟨"WordWheel$Register", "isFull", "()Z"⟩, 14)]
theorem lw_r2 : ∀ q ∈ lw_privs_2, lw_okq q := List.forall_mem_cons.mpr ⟨lw_p16, List.forall_mem_cons.mpr ⟨lw_p17, List.forall_mem_cons.mpr ⟨lw_p18, List.forall_mem_cons.mpr ⟨lw_p19, List.forall_mem_cons.mpr ⟨lw_p20, List.forall_mem_cons.mpr ⟨lw_p21, List.forall_mem_cons.mpr ⟨lw_p22, List.forall_mem_cons.mpr ⟨lw_p23, List.forall_mem_cons.mpr ⟨lw_p24, List.forall_mem_cons.mpr ⟨lw_p25, List.forall_mem_cons.mpr ⟨lw_p26, List.forall_mem_cons.mpr ⟨lw_p27, List.forall_mem_cons.mpr ⟨lw_p28, List.forall_mem_cons.mpr ⟨lw_p29, List.forall_mem_cons.mpr ⟨lw_p30, List.forall_mem_cons.mpr ⟨lw_p31, fun _ h => absurd h List.not_mem_nil⟩⟩⟩⟩⟩⟩⟩⟩⟩⟩⟩⟩⟩⟩⟩⟩
theorem lw_p32 : lw_okq (⟨"WordWheel$Register", "makeExchange", "(II)I"⟩, 14) := ⟨⟨by decide +kernel, by decide +kernel⟩, List.mem_of_getElem? (i := 87) (by decide +kernel), List.mem_of_getElem? (i := 477) (by decide +kernel), List.mem_of_getElem? (i := 478) (by decide +kernel)⟩
theorem lw_p33 : lw_okq (⟨"WordWheel$Register", "countBehindExchange", "(II)I"⟩, 14) := ⟨⟨by decide +kernel, by decide +kernel⟩, List.mem_of_getElem? (i := 87) (by decide +kernel), List.mem_of_getElem? (i := 481) (by decide +kernel), List.mem_of_getElem? (i := 482) (by decide +kernel)⟩
theorem lw_p34 : lw_okq (⟨"WordWheel$Register", "howManyCycles", "()I"⟩, 14) := ⟨⟨by decide +kernel, by decide +kernel⟩, List.mem_of_getElem? (i := 87) (by decide +kernel), List.mem_of_getElem? (i := 485) (by decide +kernel), List.mem_of_getElem? (i := 486) (by decide +kernel)⟩
theorem lw_p35 : lw_okq (⟨"WordWheel$Register", "numberCycles", "()V"⟩, 14) := ⟨⟨by decide +kernel, by decide +kernel⟩, List.mem_of_getElem? (i := 87) (by decide +kernel), List.mem_of_getElem? (i := 489) (by decide +kernel), List.mem_of_getElem? (i := 490) (by decide +kernel)⟩
theorem lw_p36 : lw_okq (⟨"WordWheel$Register", "markCycle", "(II)V"⟩, 14) := ⟨⟨by decide +kernel, by decide +kernel⟩, List.mem_of_getElem? (i := 87) (by decide +kernel), List.mem_of_getElem? (i := 494) (by decide +kernel), List.mem_of_getElem? (i := 495) (by decide +kernel)⟩
theorem lw_p37 : lw_okq (⟨"WordWheel$Register", "inOneCycle", "(II)Z"⟩, 14) := ⟨⟨by decide +kernel, by decide +kernel⟩, List.mem_of_getElem? (i := 87) (by decide +kernel), List.mem_of_getElem? (i := 498) (by decide +kernel), List.mem_of_getElem? (i := 499) (by decide +kernel)⟩
theorem lw_p38 : lw_okq (⟨"WordWheel$Register", "swapLeads", "(II)V"⟩, 14) := ⟨⟨by decide +kernel, by decide +kernel⟩, List.mem_of_getElem? (i := 87) (by decide +kernel), List.mem_of_getElem? (i := 502) (by decide +kernel), List.mem_of_getElem? (i := 503) (by decide +kernel)⟩
theorem lw_p39 : lw_okq (⟨"WordWheel$Register", "noteExchange", "(II)V"⟩, 14) := ⟨⟨by decide +kernel, by decide +kernel⟩, List.mem_of_getElem? (i := 87) (by decide +kernel), List.mem_of_getElem? (i := 506) (by decide +kernel), List.mem_of_getElem? (i := 507) (by decide +kernel)⟩
theorem lw_p40 : lw_okq (⟨"WordWheel$Register", "takeBack", "()I"⟩, 14) := ⟨⟨by decide +kernel, by decide +kernel⟩, List.mem_of_getElem? (i := 87) (by decide +kernel), List.mem_of_getElem? (i := 514) (by decide +kernel), List.mem_of_getElem? (i := 515) (by decide +kernel)⟩
theorem lw_p41 : lw_okq (⟨"WordWheel$Register", "numberOfCycle", "(I)I"⟩, 14) := ⟨⟨by decide +kernel, by decide +kernel⟩, List.mem_of_getElem? (i := 87) (by decide +kernel), List.mem_of_getElem? (i := 527) (by decide +kernel), List.mem_of_getElem? (i := 528) (by decide +kernel)⟩
theorem lw_p42 : lw_okq (⟨"WordWheel$Register", "leastOfCycle", "(I)I"⟩, 14) := ⟨⟨by decide +kernel, by decide +kernel⟩, List.mem_of_getElem? (i := 87) (by decide +kernel), List.mem_of_getElem? (i := 535) (by decide +kernel), List.mem_of_getElem? (i := 536) (by decide +kernel)⟩
theorem lw_p43 : lw_okq (⟨"WordWheel$Register", "wordsOfCycle", "(I)I"⟩, 14) := ⟨⟨by decide +kernel, by decide +kernel⟩, List.mem_of_getElem? (i := 87) (by decide +kernel), List.mem_of_getElem? (i := 539) (by decide +kernel), List.mem_of_getElem? (i := 540) (by decide +kernel)⟩
theorem lw_p44 : lw_okq (⟨"WordWheel$Register", "joinCycles", "()I"⟩, 14) := ⟨⟨by decide +kernel, by decide +kernel⟩, List.mem_of_getElem? (i := 87) (by decide +kernel), List.mem_of_getElem? (i := 547) (by decide +kernel), List.mem_of_getElem? (i := 548) (by decide +kernel)⟩
theorem lw_p45 : lw_okq (⟨"WordWheel$Register", "joinAt", "(II)Z"⟩, 14) := ⟨⟨by decide +kernel, by decide +kernel⟩, List.mem_of_getElem? (i := 87) (by decide +kernel), List.mem_of_getElem? (i := 551) (by decide +kernel), List.mem_of_getElem? (i := 552) (by decide +kernel)⟩
theorem lw_p46 : lw_okq (⟨"WordWheel$Round", "becomeLeast", "()V"⟩, 8) := ⟨⟨by decide +kernel, by decide +kernel⟩, List.mem_of_getElem? (i := 148) (by decide +kernel), List.mem_of_getElem? (i := 559) (by decide +kernel), List.mem_of_getElem? (i := 560) (by decide +kernel)⟩
theorem lw_p47 : lw_okq (⟨"WordWheel$Round", "nextRow", "(I)I"⟩, 8) := ⟨⟨by decide +kernel, by decide +kernel⟩, List.mem_of_getElem? (i := 148) (by decide +kernel), List.mem_of_getElem? (i := 564) (by decide +kernel), List.mem_of_getElem? (i := 565) (by decide +kernel)⟩
def lw_privs_3 : List (MethodName × Nat) := [(⟨"WordWheel$Register", "makeExchange", "(II)I"⟩, 14), (⟨"WordWheel$Register", "countBehindExchange", "(II)I"⟩, 14), (⟨"WordWheel$Register", "howManyCycles", "()I"⟩, 14), (⟨"WordWheel$Register", "numberCycles", "()V"⟩, 14), (⟨"WordWheel$Register", "markCycle", "(II)V"⟩, 14), (⟨"WordWheel$Register", "inOneCycle", "(II)Z"⟩, 14), (⟨"WordWheel$Register", "swapLeads", "(II)V"⟩, 14), (⟨"WordWheel$Register", "noteExchange", "(II)V"⟩, 14), (⟨"WordWheel$Register", "takeBack", "()I"⟩, 14), (⟨"WordWheel$Register", "numberOfCycle", "(I)I"⟩, 14), (⟨"WordWheel$Register", "leastOfCycle", "(I)I"⟩, 14), (⟨"WordWheel$Register", "wordsOfCycle", "(I)I"⟩, 14), (⟨"WordWheel$Register", "joinCycles", "()I"⟩, 14), (⟨"WordWheel$Register", "joinAt", "(II)Z"⟩, 14), (⟨"WordWheel$Round", "becomeLeast", "()V"⟩, 8), (⟨"WordWheel$Round", "nextRow", "(I)I"⟩, 8)]
theorem lw_r3 : ∀ q ∈ lw_privs_3, lw_okq q := List.forall_mem_cons.mpr ⟨lw_p32, List.forall_mem_cons.mpr ⟨lw_p33, List.forall_mem_cons.mpr ⟨lw_p34, List.forall_mem_cons.mpr ⟨lw_p35, List.forall_mem_cons.mpr ⟨lw_p36, List.forall_mem_cons.mpr ⟨lw_p37, List.forall_mem_cons.mpr ⟨lw_p38, List.forall_mem_cons.mpr ⟨lw_p39, List.forall_mem_cons.mpr ⟨lw_p40, List.forall_mem_cons.mpr ⟨lw_p41, List.forall_mem_cons.mpr ⟨lw_p42, List.forall_mem_cons.mpr ⟨lw_p43, List.forall_mem_cons.mpr ⟨lw_p44, List.forall_mem_cons.mpr ⟨lw_p45, List.forall_mem_cons.mpr ⟨lw_p46, List.forall_mem_cons.mpr ⟨lw_p47, fun _ h => absurd h List.not_mem_nil⟩⟩⟩⟩⟩⟩⟩⟩⟩⟩⟩⟩⟩⟩⟩⟩
theorem lw_p48 : lw_okq (⟨"WordWheel$Round", "findPlaces", "()V"⟩, 8) := ⟨⟨by decide +kernel, by decide +kernel⟩, List.mem_of_getElem? (i := 148) (by decide +kernel), List.mem_of_getElem? (i := 568) (by decide +kernel), List.mem_of_getElem? (i := 569) (by decide +kernel)⟩
theorem lw_p49 : lw_okq (⟨"WordWheel$Round", "becomeGreedy", "()V"⟩, 8) := ⟨⟨by decide +kernel, by decide +kernel⟩, List.mem_of_getElem? (i := 148) (by decide +kernel), List.mem_of_getElem? (i := 572) (by decide +kernel), List.mem_of_getElem? (i := 573) (by decide +kernel)⟩
theorem lw_p50 : lw_okq (⟨"WordWheel$Round", "greatestNew", "(I)I"⟩, 8) := ⟨⟨by decide +kernel, by decide +kernel⟩, List.mem_of_getElem? (i := 148) (by decide +kernel), List.mem_of_getElem? (i := 580) (by decide +kernel), List.mem_of_getElem? (i := 581) (by decide +kernel)⟩
theorem lw_p51 : lw_okq (⟨"WordWheel$Round", "becomeCycle", "([I)V"⟩, 8) := ⟨⟨by decide +kernel, by decide +kernel⟩, List.mem_of_getElem? (i := 148) (by decide +kernel), List.mem_of_getElem? (i := 585) (by decide +kernel), List.mem_of_getElem? (i := 586) (by decide +kernel)⟩
theorem lw_p52 : lw_okq (⟨"WordWheel$Round", "isPlace", "(I)Z"⟩, 8) := ⟨⟨by decide +kernel, by decide +kernel⟩, List.mem_of_getElem? (i := 148) (by decide +kernel), List.mem_of_getElem? (i := 593) (by decide +kernel), List.mem_of_getElem? (i := 594) (by decide +kernel)⟩
theorem lw_p53 : lw_okq (⟨"WordWheel$Round", "isThere", "()Z"⟩, 8) := ⟨⟨by decide +kernel, by decide +kernel⟩, List.mem_of_getElem? (i := 148) (by decide +kernel), List.mem_of_getElem? (i := 597) (by decide +kernel), List.mem_of_getElem? (i := 598) (by decide +kernel)⟩
theorem lw_p54 : lw_okq (⟨"WordWheel", "finding", "(I)I"⟩, 9) := ⟨⟨by decide +kernel, by decide +kernel⟩, List.mem_of_getElem? (i := 15) (by decide +kernel), List.mem_of_getElem? (i := 621) (by decide +kernel), List.mem_of_getElem? (i := 622) (by decide +kernel)⟩
theorem lw_p55 : lw_okq (⟨"WordWheel$Tape", "begin", "(II)V"⟩, 5) := ⟨⟨by decide +kernel, by decide +kernel⟩, List.mem_of_getElem? (i := 186) (by decide +kernel), List.mem_of_getElem? (i := 625) (by decide +kernel), List.mem_of_getElem? (i := 626) (by decide +kernel)⟩
theorem lw_p56 : lw_okq (⟨"WordWheel$Tape", "isLost", "()Z"⟩, 5) := ⟨⟨by decide +kernel, by decide +kernel⟩, List.mem_of_getElem? (i := 186) (by decide +kernel), List.mem_of_getElem? (i := 634) (by decide +kernel), List.mem_of_getElem? (i := 635) (by decide +kernel)⟩
theorem lw_p57 : lw_okq (⟨"WordWheel$Tape", "drop", "()I"⟩, 5) := ⟨⟨by decide +kernel, by decide +kernel⟩, List.mem_of_getElem? (i := 186) (by decide +kernel), List.mem_of_getElem? (i := 638) (by decide +kernel), List.mem_of_getElem? (i := 639) (by decide +kernel)⟩
theorem lw_p58 : lw_okq (⟨"WordWheel$Tape", "hasItems", "(II)Z"⟩, 5) := ⟨⟨by decide +kernel, by decide +kernel⟩, List.mem_of_getElem? (i := 186) (by decide +kernel), List.mem_of_getElem? (i := 649) (by decide +kernel), List.mem_of_getElem? (i := 650) (by decide +kernel)⟩
theorem lw_p59 : lw_okq (⟨"WordWheel$Tape", "fitted", "(I)I"⟩, 5) := ⟨⟨by decide +kernel, by decide +kernel⟩, List.mem_of_getElem? (i := 186) (by decide +kernel), List.mem_of_getElem? (i := 653) (by decide +kernel), List.mem_of_getElem? (i := 654) (by decide +kernel)⟩
theorem lw_p60 : lw_okq (⟨"WordWheel$Round", "writeLetters", "(II[II)V"⟩, 8) := ⟨⟨by decide +kernel, by decide +kernel⟩, List.mem_of_getElem? (i := 148) (by decide +kernel), List.mem_of_getElem? (i := 673) (by decide +kernel), List.mem_of_getElem? (i := 674) (by decide +kernel)⟩
theorem lw_p61 : lw_okq (⟨"WordWheel$Round", "countMatches", "([IIII)I"⟩, 8) := ⟨⟨by decide +kernel, by decide +kernel⟩, List.mem_of_getElem? (i := 148) (by decide +kernel), List.mem_of_getElem? (i := 681) (by decide +kernel), List.mem_of_getElem? (i := 682) (by decide +kernel)⟩
theorem lw_p62 : lw_okq (⟨"WordWheel$Round", "noteSlips", "([III)V"⟩, 8) := ⟨⟨by decide +kernel, by decide +kernel⟩, List.mem_of_getElem? (i := 148) (by decide +kernel), List.mem_of_getElem? (i := 685) (by decide +kernel), List.mem_of_getElem? (i := 686) (by decide +kernel)⟩
theorem lw_p63 : lw_okq (⟨"WordWheel$Round", "noteFirstPlaces", "(I)I"⟩, 8) := ⟨⟨by decide +kernel, by decide +kernel⟩, List.mem_of_getElem? (i := 148) (by decide +kernel), List.mem_of_getElem? (i := 693) (by decide +kernel), List.mem_of_getElem? (i := 694) (by decide +kernel)⟩
def lw_privs_4 : List (MethodName × Nat) := [(⟨"WordWheel$Round", "findPlaces", "()V"⟩, 8), (⟨"WordWheel$Round", "becomeGreedy", "()V"⟩, 8), (⟨"WordWheel$Round", "greatestNew", "(I)I"⟩, 8), (⟨"WordWheel$Round", "becomeCycle", "([I)V"⟩, 8), (⟨"WordWheel$Round", "isPlace", "(I)Z"⟩, 8), (⟨"WordWheel$Round", "isThere", "()Z"⟩, 8), (⟨"WordWheel", "finding", "(I)I"⟩, 9), (⟨"WordWheel$Tape", "begin", "(II)V"⟩, 5), (⟨"WordWheel$Tape", "isLost", "()Z"⟩, 5), (⟨"WordWheel$Tape", "drop", "()I"⟩, 5), (⟨"WordWheel$Tape", "hasItems", "(II)Z"⟩, 5), (⟨"WordWheel$Tape", "fitted", "(I)I"⟩, 5), (⟨"WordWheel$Round", "writeLetters", "(II[II)V"⟩, 8), (⟨"WordWheel$Round", "countMatches", "([IIII)I"⟩, 8), (⟨"WordWheel$Round", "noteSlips", "([III)V"⟩, 8), (⟨"WordWheel$Round", "noteFirstPlaces", "(I)I"⟩, 8)]
theorem lw_r4 : ∀ q ∈ lw_privs_4, lw_okq q := List.forall_mem_cons.mpr ⟨lw_p48, List.forall_mem_cons.mpr ⟨lw_p49, List.forall_mem_cons.mpr ⟨lw_p50, List.forall_mem_cons.mpr ⟨lw_p51, List.forall_mem_cons.mpr ⟨lw_p52, List.forall_mem_cons.mpr ⟨lw_p53, List.forall_mem_cons.mpr ⟨lw_p54, List.forall_mem_cons.mpr ⟨lw_p55, List.forall_mem_cons.mpr ⟨lw_p56, List.forall_mem_cons.mpr ⟨lw_p57, List.forall_mem_cons.mpr ⟨lw_p58, List.forall_mem_cons.mpr ⟨lw_p59, List.forall_mem_cons.mpr ⟨lw_p60, List.forall_mem_cons.mpr ⟨lw_p61, List.forall_mem_cons.mpr ⟨lw_p62, List.forall_mem_cons.mpr ⟨lw_p63, fun _ h => absurd h List.not_mem_nil⟩⟩⟩⟩⟩⟩⟩⟩⟩⟩⟩⟩⟩⟩⟩⟩
theorem lw_p64 : lw_okq (⟨"WordWheel$Tape", "hasBlanks", "()Z"⟩, 5) := ⟨⟨by decide +kernel, by decide +kernel⟩, List.mem_of_getElem? (i := 186) (by decide +kernel), List.mem_of_getElem? (i := 711) (by decide +kernel), List.mem_of_getElem? (i := 712) (by decide +kernel)⟩
theorem lw_p65 : lw_okq (⟨"WordWheel$Tape", "firstRepeated", "()I"⟩, 5) := ⟨⟨by decide +kernel, by decide +kernel⟩, List.mem_of_getElem? (i := 186) (by decide +kernel), List.mem_of_getElem? (i := 716) (by decide +kernel), List.mem_of_getElem? (i := 717) (by decide +kernel)⟩
theorem lw_p66 : lw_okq (⟨"WordWheel$Tape", "wordAt", "(I)I"⟩, 5) := ⟨⟨by decide +kernel, by decide +kernel⟩, List.mem_of_getElem? (i := 186) (by decide +kernel), List.mem_of_getElem? (i := 720) (by decide +kernel), List.mem_of_getElem? (i := 721) (by decide +kernel)⟩
theorem lw_p67 : lw_okq (⟨"WordWheel$Parting", "divide", "([II)I"⟩, 2) := ⟨⟨by decide +kernel, by decide +kernel⟩, List.mem_of_getElem? (i := 211) (by decide +kernel), List.mem_of_getElem? (i := 728) (by decide +kernel), List.mem_of_getElem? (i := 729) (by decide +kernel)⟩
theorem lw_p68 : lw_okq (⟨"WordWheel$Recurring", "learn", "([III)I"⟩, 5) := ⟨⟨by decide +kernel, by decide +kernel⟩, List.mem_of_getElem? (i := 226) (by decide +kernel), List.mem_of_getElem? (i := 740) (by decide +kernel), List.mem_of_getElem? (i := 741) (by decide +kernel)⟩
theorem lw_p69 : lw_okq (⟨"WordWheel$Recurring", "gapAt", "([II)I"⟩, 5) := ⟨⟨by decide +kernel, by decide +kernel⟩, List.mem_of_getElem? (i := 226) (by decide +kernel), List.mem_of_getElem? (i := 745) (by decide +kernel), List.mem_of_getElem? (i := 746) (by decide +kernel)⟩
theorem lw_p70 : lw_okq (⟨"WordWheel$Recurring", "inverse", "(I)I"⟩, 5) := ⟨⟨by decide +kernel, by decide +kernel⟩, List.mem_of_getElem? (i := 226) (by decide +kernel), List.mem_of_getElem? (i := 749) (by decide +kernel), List.mem_of_getElem? (i := 750) (by decide +kernel)⟩
theorem lw_p71 : lw_okq (⟨"WordWheel$Recurring", "lengthen", "(III)V"⟩, 5) := ⟨⟨by decide +kernel, by decide +kernel⟩, List.mem_of_getElem? (i := 226) (by decide +kernel), List.mem_of_getElem? (i := 753) (by decide +kernel), List.mem_of_getElem? (i := 754) (by decide +kernel)⟩
theorem lw_p72 : lw_okq (⟨"WordWheel$Recurring", "subtractEarlier", "(II)V"⟩, 5) := ⟨⟨by decide +kernel, by decide +kernel⟩, List.mem_of_getElem? (i := 226) (by decide +kernel), List.mem_of_getElem? (i := 758) (by decide +kernel), List.mem_of_getElem? (i := 759) (by decide +kernel)⟩
theorem lw_p73 : lw_okq (⟨"WordWheel$Recurring", "lowerNumbers", "(II)V"⟩, 5) := ⟨⟨by decide +kernel, by decide +kernel⟩, List.mem_of_getElem? (i := 226) (by decide +kernel), List.mem_of_getElem? (i := 762) (by decide +kernel), List.mem_of_getElem? (i := 763) (by decide +kernel)⟩
theorem lw_p74 : lw_okq (⟨"WordWheel$Recurring", "coefficientAt", "(I)I"⟩, 5) := ⟨⟨by decide +kernel, by decide +kernel⟩, List.mem_of_getElem? (i := 226) (by decide +kernel), List.mem_of_getElem? (i := 770) (by decide +kernel), List.mem_of_getElem? (i := 771) (by decide +kernel)⟩
theorem lw_p75 : lw_okq (⟨"WordWheelModel", "leastOf", "(I)I"⟩, 33) := ⟨⟨by decide +kernel, by decide +kernel⟩, List.mem_of_getElem? (i := 785) (by decide +kernel), List.mem_of_getElem? (i := 802) (by decide +kernel), List.mem_of_getElem? (i := 803) (by decide +kernel)⟩
theorem lw_p76 : lw_okq (⟨"WordWheelModel", "next", "(I)I"⟩, 33) := ⟨⟨by decide +kernel, by decide +kernel⟩, List.mem_of_getElem? (i := 785) (by decide +kernel), List.mem_of_getElem? (i := 806) (by decide +kernel), List.mem_of_getElem? (i := 807) (by decide +kernel)⟩
theorem lw_p77 : lw_okq (⟨"WordWheelModel", "lead", "()V"⟩, 33) := ⟨⟨by decide +kernel, by decide +kernel⟩, List.mem_of_getElem? (i := 785) (by decide +kernel), List.mem_of_getElem? (i := 810) (by decide +kernel), List.mem_of_getElem? (i := 811) (by decide +kernel)⟩
theorem lw_p78 : lw_okq (⟨"WordWheelModel", "isWord", "(I)Z"⟩, 33) := ⟨⟨by decide +kernel, by decide +kernel⟩, List.mem_of_getElem? (i := 785) (by decide +kernel), List.mem_of_getElem? (i := 920) (by decide +kernel), List.mem_of_getElem? (i := 921) (by decide +kernel)⟩
theorem lw_p79 : lw_okq (⟨"WordWheelModel", "sizeOf", "(I)I"⟩, 33) := ⟨⟨by decide +kernel, by decide +kernel⟩, List.mem_of_getElem? (i := 785) (by decide +kernel), List.mem_of_getElem? (i := 937) (by decide +kernel), List.mem_of_getElem? (i := 938) (by decide +kernel)⟩
def lw_privs_5 : List (MethodName × Nat) := [(⟨"WordWheel$Tape", "hasBlanks", "()Z"⟩, 5), (⟨"WordWheel$Tape", "firstRepeated", "()I"⟩, 5), (⟨"WordWheel$Tape", "wordAt", "(I)I"⟩, 5), (⟨"WordWheel$Parting", "divide", "([II)I"⟩, 2), (⟨"WordWheel$Recurring", "learn", "([III)I"⟩, 5), (⟨"WordWheel$Recurring", "gapAt", "([II)I"⟩, 5), (⟨"WordWheel$Recurring", "inverse", "(I)I"⟩, 5), (⟨"WordWheel$Recurring", "lengthen", "(III)V"⟩, 5), (⟨"WordWheel$Recurring", "subtractEarlier", "(II)V"⟩, 5), (⟨"WordWheel$Recurring", "lowerNumbers", "(II)V"⟩, 5), (⟨"WordWheel$Recurring", "coefficientAt", "(I)I"⟩, 5), (⟨"WordWheelModel", "leastOf", "(I)I"⟩, 33), (⟨"WordWheelModel", "next", "(I)I"⟩, 33), (⟨"WordWheelModel", "lead", "()V"⟩, 33), (⟨"WordWheelModel", "isWord", "(I)Z"⟩, 33), (⟨"WordWheelModel", "sizeOf", "(I)I"⟩, 33)]
theorem lw_r5 : ∀ q ∈ lw_privs_5, lw_okq q := List.forall_mem_cons.mpr ⟨lw_p64, List.forall_mem_cons.mpr ⟨lw_p65, List.forall_mem_cons.mpr ⟨lw_p66, List.forall_mem_cons.mpr ⟨lw_p67, List.forall_mem_cons.mpr ⟨lw_p68, List.forall_mem_cons.mpr ⟨lw_p69, List.forall_mem_cons.mpr ⟨lw_p70, List.forall_mem_cons.mpr ⟨lw_p71, List.forall_mem_cons.mpr ⟨lw_p72, List.forall_mem_cons.mpr ⟨lw_p73, List.forall_mem_cons.mpr ⟨lw_p74, List.forall_mem_cons.mpr ⟨lw_p75, List.forall_mem_cons.mpr ⟨lw_p76, List.forall_mem_cons.mpr ⟨lw_p77, List.forall_mem_cons.mpr ⟨lw_p78, List.forall_mem_cons.mpr ⟨lw_p79, fun _ h => absurd h List.not_mem_nil⟩⟩⟩⟩⟩⟩⟩⟩⟩⟩⟩⟩⟩⟩⟩⟩
theorem lw_p80 : lw_okq (⟨"WordWheelModel", "hasWanted", "(I)Z"⟩, 33) := ⟨⟨by decide +kernel, by decide +kernel⟩, List.mem_of_getElem? (i := 785) (by decide +kernel), List.mem_of_getElem? (i := 965) (by decide +kernel), List.mem_of_getElem? (i := 966) (by decide +kernel)⟩
theorem lw_p81 : lw_okq (⟨"WordWheelModel", "isRight", "()Z"⟩, 33) := ⟨⟨by decide +kernel, by decide +kernel⟩, List.mem_of_getElem? (i := 785) (by decide +kernel), List.mem_of_getElem? (i := 985) (by decide +kernel), List.mem_of_getElem? (i := 986) (by decide +kernel)⟩
theorem lw_p82 : lw_okq (⟨"WordWheelModel", "swap", "(II)V"⟩, 33) := ⟨⟨by decide +kernel, by decide +kernel⟩, List.mem_of_getElem? (i := 785) (by decide +kernel), List.mem_of_getElem? (i := 993) (by decide +kernel), List.mem_of_getElem? (i := 994) (by decide +kernel)⟩
theorem lw_p83 : lw_okq (⟨"WordWheelModel", "findCycles", "()V"⟩, 33) := ⟨⟨by decide +kernel, by decide +kernel⟩, List.mem_of_getElem? (i := 785) (by decide +kernel), List.mem_of_getElem? (i := 997) (by decide +kernel), List.mem_of_getElem? (i := 998) (by decide +kernel)⟩
theorem lw_p84 : lw_okq (⟨"WordWheelModel", "joins", "(Z)I"⟩, 33) := ⟨⟨by decide +kernel, by decide +kernel⟩, List.mem_of_getElem? (i := 785) (by decide +kernel), List.mem_of_getElem? (i := 1021) (by decide +kernel), List.mem_of_getElem? (i := 1022) (by decide +kernel)⟩
theorem lw_p85 : lw_okq (⟨"WordWheelModel", "groupOf", "(I)I"⟩, 33) := ⟨⟨by decide +kernel, by decide +kernel⟩, List.mem_of_getElem? (i := 785) (by decide +kernel), List.mem_of_getElem? (i := 1025) (by decide +kernel), List.mem_of_getElem? (i := 1026) (by decide +kernel)⟩
theorem lw_p86 : lw_okq (⟨"WordWheelModel", "leastRound", "()V"⟩, 33) := ⟨⟨by decide +kernel, by decide +kernel⟩, List.mem_of_getElem? (i := 785) (by decide +kernel), List.mem_of_getElem? (i := 1033) (by decide +kernel), List.mem_of_getElem? (i := 1034) (by decide +kernel)⟩
theorem lw_p87 : lw_okq (⟨"WordWheelModel", "greedyRound", "()V"⟩, 33) := ⟨⟨by decide +kernel, by decide +kernel⟩, List.mem_of_getElem? (i := 785) (by decide +kernel), List.mem_of_getElem? (i := 1037) (by decide +kernel), List.mem_of_getElem? (i := 1038) (by decide +kernel)⟩
theorem lw_p88 : lw_okq (⟨"WordWheelModel", "met", "(I)I"⟩, 33) := ⟨⟨by decide +kernel, by decide +kernel⟩, List.mem_of_getElem? (i := 785) (by decide +kernel), List.mem_of_getElem? (i := 1061) (by decide +kernel), List.mem_of_getElem? (i := 1062) (by decide +kernel)⟩
theorem lw_p89 : lw_okq (⟨"WordWheelModel", "lacks", "(III)I"⟩, 33) := ⟨⟨by decide +kernel, by decide +kernel⟩, List.mem_of_getElem? (i := 785) (by decide +kernel), List.mem_of_getElem? (i := 1073) (by decide +kernel), List.mem_of_getElem? (i := 1074) (by decide +kernel)⟩
theorem lw_p90 : lw_okq (⟨"WordWheelModel", "isWithin", "(III)Z"⟩, 33) := ⟨⟨by decide +kernel, by decide +kernel⟩, List.mem_of_getElem? (i := 785) (by decide +kernel), List.mem_of_getElem? (i := 1087) (by decide +kernel), List.mem_of_getElem? (i := 1088) (by decide +kernel)⟩
theorem lw_p91 : lw_okq (⟨"WordWheelModel", "noLetters", "(I)I"⟩, 33) := ⟨⟨by decide +kernel, by decide +kernel⟩, List.mem_of_getElem? (i := 785) (by decide +kernel), List.mem_of_getElem? (i := 1108) (by decide +kernel), List.mem_of_getElem? (i := 1109) (by decide +kernel)⟩
theorem lw_p92 : lw_okq (⟨"WordWheelModel", "leastLength", "(I)I"⟩, 33) := ⟨⟨by decide +kernel, by decide +kernel⟩, List.mem_of_getElem? (i := 785) (by decide +kernel), List.mem_of_getElem? (i := 1124) (by decide +kernel), List.mem_of_getElem? (i := 1125) (by decide +kernel)⟩
theorem lw_p93 : lw_okq (⟨"WordWheelModel", "inverse", "(I)I"⟩, 33) := ⟨⟨by decide +kernel, by decide +kernel⟩, List.mem_of_getElem? (i := 785) (by decide +kernel), List.mem_of_getElem? (i := 1128) (by decide +kernel), List.mem_of_getElem? (i := 1129) (by decide +kernel)⟩
theorem lw_p94 : lw_okq (⟨"WordWheelModel", "solve", "(II)V"⟩, 33) := ⟨⟨by decide +kernel, by decide +kernel⟩, List.mem_of_getElem? (i := 785) (by decide +kernel), List.mem_of_getElem? (i := 1132) (by decide +kernel), List.mem_of_getElem? (i := 1133) (by decide +kernel)⟩
def lw_privs_6 : List (MethodName × Nat) := [(⟨"WordWheelModel", "hasWanted", "(I)Z"⟩, 33), (⟨"WordWheelModel", "isRight", "()Z"⟩, 33), (⟨"WordWheelModel", "swap", "(II)V"⟩, 33), (⟨"WordWheelModel", "findCycles", "()V"⟩, 33), (⟨"WordWheelModel", "joins", "(Z)I"⟩, 33), (⟨"WordWheelModel", "groupOf", "(I)I"⟩, 33), (⟨"WordWheelModel", "leastRound", "()V"⟩, 33), (⟨"WordWheelModel", "greedyRound", "()V"⟩, 33), (⟨"WordWheelModel", "met", "(I)I"⟩, 33), (⟨"WordWheelModel", "lacks", "(III)I"⟩, 33), (⟨"WordWheelModel", "isWithin", "(III)Z"⟩, 33), (⟨"WordWheelModel", "noLetters", "(I)I"⟩, 33), (⟨"WordWheelModel", "leastLength", "(I)I"⟩, 33), (⟨"WordWheelModel", "inverse", "(I)I"⟩, 33), (⟨"WordWheelModel", "solve", "(II)V"⟩, 33)]
theorem lw_r6 : ∀ q ∈ lw_privs_6, lw_okq q := List.forall_mem_cons.mpr ⟨lw_p80, List.forall_mem_cons.mpr ⟨lw_p81, List.forall_mem_cons.mpr ⟨lw_p82, List.forall_mem_cons.mpr ⟨lw_p83, List.forall_mem_cons.mpr ⟨lw_p84, List.forall_mem_cons.mpr ⟨lw_p85, List.forall_mem_cons.mpr ⟨lw_p86, List.forall_mem_cons.mpr ⟨lw_p87, List.forall_mem_cons.mpr ⟨lw_p88, List.forall_mem_cons.mpr ⟨lw_p89, List.forall_mem_cons.mpr ⟨lw_p90, List.forall_mem_cons.mpr ⟨lw_p91, List.forall_mem_cons.mpr ⟨lw_p92, List.forall_mem_cons.mpr ⟨lw_p93, List.forall_mem_cons.mpr ⟨lw_p94, fun _ h => absurd h List.not_mem_nil⟩⟩⟩⟩⟩⟩⟩⟩⟩⟩⟩⟩⟩⟩⟩
def lw_privs : List (MethodName × Nat) := lw_privs_1 ++ (lw_privs_2 ++ (lw_privs_3 ++ (lw_privs_4 ++ (lw_privs_5 ++ (lw_privs_6)))))
def lw_tbl : List Cond := k2_sels lw_privs ++ tables_1
theorem lw_privs_ok : ∀ q ∈ lw_privs, lw_okq q := by
  show ∀ q ∈ lw_privs_1 ++ (lw_privs_2 ++ (lw_privs_3 ++ (lw_privs_4 ++ (lw_privs_5 ++ (lw_privs_6))))), lw_okq q
  exact List.forall_mem_append.mpr ⟨lw_r1, List.forall_mem_append.mpr ⟨lw_r2, List.forall_mem_append.mpr ⟨lw_r3, List.forall_mem_append.mpr ⟨lw_r4, List.forall_mem_append.mpr ⟨lw_r5, lw_r6⟩⟩⟩⟩⟩
end
section
def RX0 : String := "WordWheel$Parting"
def TX0 : u_T := fun k => match k with
  | 0 => ("WordWheel$Parting", "begins", "[I", true)
  | _ => ("WordWheel$Parting", "told", "I", false)
def tyX0 : Nat → FieldType := fun k => match k with
  | 0 => .array .int
  | _ => .int
abbrev wsX00 : List Cond := u_ws RX0 TX0 2
theorem nmX0 : ∀ a, a < 2 → ∀ b, b < 2 → a ≠ b → (TX0 a).2.1 ≠ (TX0 b).2.1 := by decide +kernel
theorem tyX0_ok : ∀ k, k < 2 → parseFieldDescriptor (TX0 k).2.2.1 = some (tyX0 k) := by decide +kernel
abbrev cX0_init : ByteArray := prog_2_method_1_code
def yX0_init : MethodName := ⟨RX0, "<init>", "()V"⟩
abbrev cX0_divide : ByteArray := prog_2_method_2_code
def yX0_divide : MethodName := ⟨RX0, "divide", "([II)I"⟩
def RX1 : String := "WordWheel$Recurring"
def TX1 : u_T := fun k => match k with
  | 0 => ("WordWheel$Recurring", "now", "[I", true)
  | 1 => ("WordWheel$Recurring", "earlier", "[I", true)
  | 2 => ("WordWheel$Recurring", "spare", "[I", true)
  | 3 => ("WordWheel$Recurring", "length", "I", false)
  | _ => ("WordWheel$Recurring", "modulus", "I", false)
def tyX1 : Nat → FieldType := fun k => match k with
  | 0 => .array .int
  | 1 => .array .int
  | 2 => .array .int
  | 3 => .int
  | _ => .int
abbrev wsX10 : List Cond := u_ws RX1 TX1 5
theorem nmX1 : ∀ a, a < 5 → ∀ b, b < 5 → a ≠ b → (TX1 a).2.1 ≠ (TX1 b).2.1 := by decide +kernel
theorem tyX1_ok : ∀ k, k < 5 → parseFieldDescriptor (TX1 k).2.2.1 = some (tyX1 k) := by decide +kernel
abbrev cX1_init : ByteArray := prog_3_method_1_code
def yX1_init : MethodName := ⟨RX1, "<init>", "()V"⟩
abbrev cX1_coefficientAt : ByteArray := prog_3_method_2_code
def yX1_coefficientAt : MethodName := ⟨RX1, "coefficientAt", "(I)I"⟩
abbrev cX1_learn : ByteArray := prog_3_method_3_code
def yX1_learn : MethodName := ⟨RX1, "learn", "([III)I"⟩
abbrev cX1_gapAt : ByteArray := prog_3_method_4_code
def yX1_gapAt : MethodName := ⟨RX1, "gapAt", "([II)I"⟩
abbrev cX1_inverse : ByteArray := prog_3_method_5_code
def yX1_inverse : MethodName := ⟨RX1, "inverse", "(I)I"⟩
abbrev cX1_lengthen : ByteArray := prog_3_method_6_code
def yX1_lengthen : MethodName := ⟨RX1, "lengthen", "(III)V"⟩
abbrev cX1_subtractEarlier : ByteArray := prog_3_method_7_code
def yX1_subtractEarlier : MethodName := ⟨RX1, "subtractEarlier", "(II)V"⟩
abbrev cX1_lowerNumbers : ByteArray := prog_3_method_8_code
def yX1_lowerNumbers : MethodName := ⟨RX1, "lowerNumbers", "(II)V"⟩
def RX2 : String := "WordWheel$Register"
def TX2 : u_T := fun k => match k with
  | 0 => ("WordWheel$Register", "words", "LWordWheel$Words;", true)
  | 1 => ("WordWheel$Register", "factors", "[I", true)
  | 2 => ("WordWheel$Register", "addend", "I", false)
  | 3 => ("WordWheel$Register", "ones", "[I", true)
  | 4 => ("WordWheel$Register", "others", "[I", true)
  | 5 => ("WordWheel$Register", "exchanges", "I", false)
  | 6 => ("WordWheel$Register", "lead", "[I", true)
  | 7 => ("WordWheel$Register", "leadsStand", "Z", false)
  | 8 => ("WordWheel$Register", "cycleNumber", "[I", true)
  | 9 => ("WordWheel$Register", "leastWord", "[I", true)
  | 10 => ("WordWheel$Register", "numbersStand", "Z", false)
  | 11 => ("WordWheel$Register", "cycleCount", "I", false)
  | 12 => ("WordWheel$Register", "countStands", "Z", false)
  | _ => ("WordWheel$Register", "joined", "[I", true)
def tyX2 : Nat → FieldType := fun k => match k with
  | 0 => .object "WordWheel$Words"
  | 1 => .array .int
  | 2 => .int
  | 3 => .array .int
  | 4 => .array .int
  | 5 => .int
  | 6 => .array .int
  | 7 => .boolean
  | 8 => .array .int
  | 9 => .array .int
  | 10 => .boolean
  | 11 => .int
  | 12 => .boolean
  | _ => .array .int
abbrev wsX20 : List Cond := u_ws RX2 TX2 14
theorem nmX2 : ∀ a, a < 14 → ∀ b, b < 14 → a ≠ b → (TX2 a).2.1 ≠ (TX2 b).2.1 := by decide +kernel
theorem tyX2_ok : ∀ k, k < 14 → parseFieldDescriptor (TX2 k).2.2.1 = some (tyX2 k) := by decide +kernel
abbrev cX2_init : ByteArray := prog_4_method_1_code
def yX2_init : MethodName := ⟨RX2, "<init>", "(LWordWheel$Words;)V"⟩
abbrev cX2_becomeTurning : ByteArray := prog_4_method_2_code
def yX2_becomeTurning : MethodName := ⟨RX2, "becomeTurning", "()V"⟩
abbrev cX2_changeFactor : ByteArray := prog_4_method_3_code
def yX2_changeFactor : MethodName := ⟨RX2, "changeFactor", "(II)I"⟩
abbrev cX2_changeSum : ByteArray := prog_4_method_4_code
def yX2_changeSum : MethodName := ⟨RX2, "changeSum", "(I)I"⟩
abbrev cX2_forgetExchanges : ByteArray := prog_4_method_5_code
def yX2_forgetExchanges : MethodName := ⟨RX2, "forgetExchanges", "()V"⟩
abbrev cX2_isRight : ByteArray := prog_4_method_6_code
def yX2_isRight : MethodName := ⟨RX2, "isRight", "()Z"⟩
abbrev cX2_isFull : ByteArray := prog_4_method_7_code
def yX2_isFull : MethodName := ⟨RX2, "isFull", "()Z"⟩
abbrev cX2_leadOf : ByteArray := prog_4_method_8_code
def yX2_leadOf : MethodName := ⟨RX2, "leadOf", "(I)I"⟩
abbrev cX2_leads : ByteArray := prog_4_method_9_code
def yX2_leads : MethodName := ⟨RX2, "leads", "()[I"⟩
abbrev cX2_fillComing : ByteArray := prog_4_method_10_code
def yX2_fillComing : MethodName := ⟨RX2, "fillComing", "()V"⟩
abbrev cX2_numberCycles : ByteArray := prog_4_method_11_code
def yX2_numberCycles : MethodName := ⟨RX2, "numberCycles", "()V"⟩
abbrev cX2_markCycle : ByteArray := prog_4_method_12_code
def yX2_markCycle : MethodName := ⟨RX2, "markCycle", "(II)V"⟩
abbrev cX2_howManyCycles : ByteArray := prog_4_method_13_code
def yX2_howManyCycles : MethodName := ⟨RX2, "howManyCycles", "()I"⟩
abbrev cX2_numberOfCycle : ByteArray := prog_4_method_14_code
def yX2_numberOfCycle : MethodName := ⟨RX2, "numberOfCycle", "(I)I"⟩
abbrev cX2_leastOfCycle : ByteArray := prog_4_method_15_code
def yX2_leastOfCycle : MethodName := ⟨RX2, "leastOfCycle", "(I)I"⟩
abbrev cX2_wordsOfCycle : ByteArray := prog_4_method_16_code
def yX2_wordsOfCycle : MethodName := ⟨RX2, "wordsOfCycle", "(I)I"⟩
abbrev cX2_makeExchange : ByteArray := prog_4_method_17_code
def yX2_makeExchange : MethodName := ⟨RX2, "makeExchange", "(II)I"⟩
abbrev cX2_takeBack : ByteArray := prog_4_method_18_code
def yX2_takeBack : MethodName := ⟨RX2, "takeBack", "()I"⟩
abbrev cX2_noteExchange : ByteArray := prog_4_method_19_code
def yX2_noteExchange : MethodName := ⟨RX2, "noteExchange", "(II)V"⟩
abbrev cX2_swapLeads : ByteArray := prog_4_method_20_code
def yX2_swapLeads : MethodName := ⟨RX2, "swapLeads", "(II)V"⟩
abbrev cX2_countBehindExchange : ByteArray := prog_4_method_21_code
def yX2_countBehindExchange : MethodName := ⟨RX2, "countBehindExchange", "(II)I"⟩
abbrev cX2_inOneCycle : ByteArray := prog_4_method_22_code
def yX2_inOneCycle : MethodName := ⟨RX2, "inOneCycle", "(II)Z"⟩
abbrev cX2_joinCycles : ByteArray := prog_4_method_23_code
def yX2_joinCycles : MethodName := ⟨RX2, "joinCycles", "()I"⟩
abbrev cX2_joinAt : ByteArray := prog_4_method_24_code
def yX2_joinAt : MethodName := ⟨RX2, "joinAt", "(II)Z"⟩
def RX3 : String := "WordWheel$RingCounter"
def TX3 : u_T := fun k => match k with
  | 0 => ("WordWheel$RingCounter", "words", "LWordWheel$Words;", true)
  | 1 => ("WordWheel$RingCounter", "row", "[I", true)
  | 2 => ("WordWheel$RingCounter", "pathways", "[I", true)
  | _ => ("WordWheel$RingCounter", "amounts", "[I", true)
def tyX3 : Nat → FieldType := fun k => match k with
  | 0 => .object "WordWheel$Words"
  | 1 => .array .int
  | 2 => .array .int
  | _ => .array .int
abbrev wsX30 : List Cond := u_ws RX3 TX3 4
theorem nmX3 : ∀ a, a < 4 → ∀ b, b < 4 → a ≠ b → (TX3 a).2.1 ≠ (TX3 b).2.1 := by decide +kernel
theorem tyX3_ok : ∀ k, k < 4 → parseFieldDescriptor (TX3 k).2.2.1 = some (tyX3 k) := by decide +kernel
abbrev cX3_init : ByteArray := prog_5_method_1_code
def yX3_init : MethodName := ⟨RX3, "<init>", "(LWordWheel$Words;)V"⟩
abbrev cX3_ringsUpTo : ByteArray := prog_5_method_2_code
def yX3_ringsUpTo : MethodName := ⟨RX3, "ringsUpTo", "(I)I"⟩
abbrev cX3_greatestRepeated : ByteArray := prog_5_method_3_code
def yX3_greatestRepeated : MethodName := ⟨RX3, "greatestRepeated", "(II)I"⟩
abbrev cX3_leastOfRing : ByteArray := prog_5_method_4_code
def yX3_leastOfRing : MethodName := ⟨RX3, "leastOfRing", "(I)I"⟩
abbrev cX3_wordsUpTo : ByteArray := prog_5_method_5_code
def yX3_wordsUpTo : MethodName := ⟨RX3, "wordsUpTo", "(II)I"⟩
abbrev cX3_lowerToBeginning : ByteArray := prog_5_method_6_code
def yX3_lowerToBeginning : MethodName := ⟨RX3, "lowerToBeginning", "(I)V"⟩
abbrev cX3_firstFault : ByteArray := prog_5_method_7_code
def yX3_firstFault : MethodName := ⟨RX3, "firstFault", "(I)I"⟩
abbrev cX3_wordsAboveRow : ByteArray := prog_5_method_8_code
def yX3_wordsAboveRow : MethodName := ⟨RX3, "wordsAboveRow", "(I)I"⟩
abbrev cX3_greaterThan : ByteArray := prog_5_method_9_code
def yX3_greaterThan : MethodName := ⟨RX3, "greaterThan", "(I)I"⟩
abbrev cX3_takeAmounts : ByteArray := prog_5_method_10_code
def yX3_takeAmounts : MethodName := ⟨RX3, "takeAmounts", "(IIIII)Z"⟩
abbrev cX3_ringsOfAmounts : ByteArray := prog_5_method_11_code
def yX3_ringsOfAmounts : MethodName := ⟨RX3, "ringsOfAmounts", "()I"⟩
abbrev cX3_allDivisible : ByteArray := prog_5_method_12_code
def yX3_allDivisible : MethodName := ⟨RX3, "allDivisible", "(I)Z"⟩
abbrev cX3_arrangements : ByteArray := prog_5_method_13_code
def yX3_arrangements : MethodName := ⟨RX3, "arrangements", "(I)J"⟩
def RX4 : String := "WordWheel$Round"
def TX4 : u_T := fun k => match k with
  | 0 => ("WordWheel$Round", "words", "LWordWheel$Words;", true)
  | 1 => ("WordWheel$Round", "letters", "[B", true)
  | 2 => ("WordWheel$Round", "places", "[I", true)
  | 3 => ("WordWheel$Round", "kind", "I", false)
  | 4 => ("WordWheel$Round", "row", "[I", true)
  | 5 => ("WordWheel$Round", "slipsOf", "[J", true)
  | 6 => ("WordWheel$Round", "standsAt", "[J", true)
  | _ => ("WordWheel$Round", "firstMatch", "I", false)
def tyX4 : Nat → FieldType := fun k => match k with
  | 0 => .object "WordWheel$Words"
  | 1 => .array .byte
  | 2 => .array .int
  | 3 => .int
  | 4 => .array .int
  | 5 => .array .long
  | 6 => .array .long
  | _ => .int
abbrev wsX40 : List Cond := u_ws RX4 TX4 8
theorem nmX4 : ∀ a, a < 8 → ∀ b, b < 8 → a ≠ b → (TX4 a).2.1 ≠ (TX4 b).2.1 := by decide +kernel
theorem tyX4_ok : ∀ k, k < 8 → parseFieldDescriptor (TX4 k).2.2.1 = some (tyX4 k) := by decide +kernel
abbrev cX4_init : ByteArray := prog_6_method_1_code
def yX4_init : MethodName := ⟨RX4, "<init>", "(LWordWheel$Words;)V"⟩
abbrev cX4_drop : ByteArray := prog_6_method_2_code
def yX4_drop : MethodName := ⟨RX4, "drop", "()V"⟩
abbrev cX4_isThere : ByteArray := prog_6_method_3_code
def yX4_isThere : MethodName := ⟨RX4, "isThere", "()Z"⟩
abbrev cX4_isPlace : ByteArray := prog_6_method_4_code
def yX4_isPlace : MethodName := ⟨RX4, "isPlace", "(I)Z"⟩
abbrev cX4_becomeLeast : ByteArray := prog_6_method_5_code
def yX4_becomeLeast : MethodName := ⟨RX4, "becomeLeast", "()V"⟩
abbrev cX4_nextRow : ByteArray := prog_6_method_6_code
def yX4_nextRow : MethodName := ⟨RX4, "nextRow", "(I)I"⟩
abbrev cX4_findPlaces : ByteArray := prog_6_method_7_code
def yX4_findPlaces : MethodName := ⟨RX4, "findPlaces", "()V"⟩
abbrev cX4_becomeGreedy : ByteArray := prog_6_method_8_code
def yX4_becomeGreedy : MethodName := ⟨RX4, "becomeGreedy", "()V"⟩
abbrev cX4_greatestNew : ByteArray := prog_6_method_9_code
def yX4_greatestNew : MethodName := ⟨RX4, "greatestNew", "(I)I"⟩
abbrev cX4_becomeCycle : ByteArray := prog_6_method_10_code
def yX4_becomeCycle : MethodName := ⟨RX4, "becomeCycle", "([I)V"⟩
abbrev cX4_writeLetters : ByteArray := prog_6_method_11_code
def yX4_writeLetters : MethodName := ⟨RX4, "writeLetters", "(II[II)V"⟩
abbrev cX4_countMatches : ByteArray := prog_6_method_12_code
def yX4_countMatches : MethodName := ⟨RX4, "countMatches", "([IIII)I"⟩
abbrev cX4_noteSlips : ByteArray := prog_6_method_13_code
def yX4_noteSlips : MethodName := ⟨RX4, "noteSlips", "([III)V"⟩
abbrev cX4_noteFirstPlaces : ByteArray := prog_6_method_14_code
def yX4_noteFirstPlaces : MethodName := ⟨RX4, "noteFirstPlaces", "(I)I"⟩
def RX5 : String := "WordWheel$Tape"
def TX5 : u_T := fun k => match k with
  | 0 => ("WordWheel$Tape", "words", "LWordWheel$Words;", true)
  | 1 => ("WordWheel$Tape", "items", "[I", true)
  | 2 => ("WordWheel$Tape", "form", "I", false)
  | 3 => ("WordWheel$Tape", "length", "I", false)
  | _ => ("WordWheel$Tape", "begun", "[I", true)
def tyX5 : Nat → FieldType := fun k => match k with
  | 0 => .object "WordWheel$Words"
  | 1 => .array .int
  | 2 => .int
  | 3 => .int
  | _ => .array .int
abbrev wsX50 : List Cond := u_ws RX5 TX5 5
theorem nmX5 : ∀ a, a < 5 → ∀ b, b < 5 → a ≠ b → (TX5 a).2.1 ≠ (TX5 b).2.1 := by decide +kernel
theorem tyX5_ok : ∀ k, k < 5 → parseFieldDescriptor (TX5 k).2.2.1 = some (tyX5 k) := by decide +kernel
abbrev cX5_init : ByteArray := prog_7_method_1_code
def yX5_init : MethodName := ⟨RX5, "<init>", "(LWordWheel$Words;)V"⟩
abbrev cX5_isLost : ByteArray := prog_7_method_2_code
def yX5_isLost : MethodName := ⟨RX5, "isLost", "()Z"⟩
abbrev cX5_begin : ByteArray := prog_7_method_3_code
def yX5_begin : MethodName := ⟨RX5, "begin", "(II)V"⟩
abbrev cX5_drop : ByteArray := prog_7_method_4_code
def yX5_drop : MethodName := ⟨RX5, "drop", "()I"⟩
abbrev cX5_hasItems : ByteArray := prog_7_method_5_code
def yX5_hasItems : MethodName := ⟨RX5, "hasItems", "(II)Z"⟩
abbrev cX5_fitted : ByteArray := prog_7_method_6_code
def yX5_fitted : MethodName := ⟨RX5, "fitted", "(I)I"⟩
abbrev cX5_hasBlanks : ByteArray := prog_7_method_7_code
def yX5_hasBlanks : MethodName := ⟨RX5, "hasBlanks", "()Z"⟩
abbrev cX5_firstRepeated : ByteArray := prog_7_method_8_code
def yX5_firstRepeated : MethodName := ⟨RX5, "firstRepeated", "()I"⟩
abbrev cX5_wordAt : ByteArray := prog_7_method_9_code
def yX5_wordAt : MethodName := ⟨RX5, "wordAt", "(I)I"⟩
def RX6 : String := "WordWheel$Words"
def TX6 : u_T := fun k => match k with
  | 0 => ("WordWheel$Words", "power", "[I", true)
  | 1 => ("WordWheel$Words", "letters", "I", false)
  | 2 => ("WordWheel$Words", "length", "I", false)
  | 3 => ("WordWheel$Words", "all", "I", false)
  | _ => ("WordWheel$Words", "high", "I", false)
def tyX6 : Nat → FieldType := fun k => match k with
  | 0 => .array .int
  | 1 => .int
  | 2 => .int
  | 3 => .int
  | _ => .int
abbrev wsX60 : List Cond := u_ws RX6 TX6 5
theorem nmX6 : ∀ a, a < 5 → ∀ b, b < 5 → a ≠ b → (TX6 a).2.1 ≠ (TX6 b).2.1 := by decide +kernel
theorem tyX6_ok : ∀ k, k < 5 → parseFieldDescriptor (TX6 k).2.2.1 = some (tyX6 k) := by decide +kernel
abbrev cX6_init : ByteArray := prog_8_method_1_code
def yX6_init : MethodName := ⟨RX6, "<init>", "()V"⟩
abbrev cX6_howMany : ByteArray := prog_8_method_2_code
def yX6_howMany : MethodName := ⟨RX6, "howMany", "(II)I"⟩
abbrev cX6_become : ByteArray := prog_8_method_3_code
def yX6_become : MethodName := ⟨RX6, "become", "(II)V"⟩
abbrev cX6_has : ByteArray := prog_8_method_4_code
def yX6_has : MethodName := ⟨RX6, "has", "(I)Z"⟩
abbrev cX6_isLetter : ByteArray := prog_8_method_5_code
def yX6_isLetter : MethodName := ⟨RX6, "isLetter", "(I)Z"⟩
abbrev cX6_differInFirst : ByteArray := prog_8_method_6_code
def yX6_differInFirst : MethodName := ⟨RX6, "differInFirst", "(II)Z"⟩
abbrev cX6_turned : ByteArray := prog_8_method_7_code
def yX6_turned : MethodName := ⟨RX6, "turned", "(II)I"⟩
abbrev cX6_turnedOnce : ByteArray := prog_8_method_8_code
def yX6_turnedOnce : MethodName := ⟨RX6, "turnedOnce", "(I)I"⟩
abbrev cX6_leastOf : ByteArray := prog_8_method_9_code
def yX6_leastOf : MethodName := ⟨RX6, "leastOf", "(I)I"⟩
abbrev cX6_stepsToLeast : ByteArray := prog_8_method_10_code
def yX6_stepsToLeast : MethodName := ⟨RX6, "stepsToLeast", "(I)I"⟩
abbrev cX6_ringSize : ByteArray := prog_8_method_11_code
def yX6_ringSize : MethodName := ⟨RX6, "ringSize", "(I)I"⟩
abbrev cX6_backward : ByteArray := prog_8_method_12_code
def yX6_backward : MethodName := ⟨RX6, "backward", "(I)I"⟩
def RX7 : String := "WordWheel"
def TX7 : u_T := fun k => match k with
  | 0 => ("WordWheel", "words", "LWordWheel$Words;", true)
  | 1 => ("WordWheel", "counter", "LWordWheel$RingCounter;", true)
  | 2 => ("WordWheel", "register", "LWordWheel$Register;", true)
  | 3 => ("WordWheel", "theRound", "LWordWheel$Round;", true)
  | 4 => ("WordWheel", "tapes", "[LWordWheel$Tape;", true)
  | 5 => ("WordWheel", "parting", "LWordWheel$Parting;", true)
  | 6 => ("WordWheel", "recurring", "LWordWheel$Recurring;", true)
  | 7 => ("WordWheel", "firstFound", "I", false)
  | _ => ("WordWheel", "latestFinding", "I", false)
def tyX7 : Nat → FieldType := fun k => match k with
  | 0 => .object "WordWheel$Words"
  | 1 => .object "WordWheel$RingCounter"
  | 2 => .object "WordWheel$Register"
  | 3 => .object "WordWheel$Round"
  | 4 => .array (.object "WordWheel$Tape")
  | 5 => .object "WordWheel$Parting"
  | 6 => .object "WordWheel$Recurring"
  | 7 => .int
  | _ => .int
abbrev wsX70 : List Cond := u_ws RX7 TX7 9
theorem nmX7 : ∀ a, a < 9 → ∀ b, b < 9 → a ≠ b → (TX7 a).2.1 ≠ (TX7 b).2.1 := by decide +kernel
theorem tyX7_ok : ∀ k, k < 9 → parseFieldDescriptor (TX7 k).2.2.1 = some (tyX7 k) := by decide +kernel
abbrev cX7_init : ByteArray := prog_1_method_1_code
def yX7_init : MethodName := ⟨RX7, "<init>", "()V"⟩
abbrev cX7_wheel : ByteArray := prog_1_method_2_code
def yX7_wheel : MethodName := ⟨RX7, "wheel", "(II)I"⟩
abbrev cX7_turn : ByteArray := prog_1_method_3_code
def yX7_turn : MethodName := ⟨RX7, "turn", "(II)I"⟩
abbrev cX7_least : ByteArray := prog_1_method_4_code
def yX7_least : MethodName := ⟨RX7, "least", "(I)I"⟩
abbrev cX7_steps : ByteArray := prog_1_method_5_code
def yX7_steps : MethodName := ⟨RX7, "steps", "(I)I"⟩
abbrev cX7_size : ByteArray := prog_1_method_6_code
def yX7_size : MethodName := ⟨RX7, "size", "(I)I"⟩
abbrev cX7_even : ByteArray := prog_1_method_7_code
def yX7_even : MethodName := ⟨RX7, "even", "(I)I"⟩
abbrev cX7_rings : ByteArray := prog_1_method_8_code
def yX7_rings : MethodName := ⟨RX7, "rings", "()I"⟩
abbrev cX7_ringOf : ByteArray := prog_1_method_9_code
def yX7_ringOf : MethodName := ⟨RX7, "ringOf", "(I)I"⟩
abbrev cX7_ring : ByteArray := prog_1_method_10_code
def yX7_ring : MethodName := ⟨RX7, "ring", "(I)I"⟩
abbrev cX7_below : ByteArray := prog_1_method_11_code
def yX7_below : MethodName := ⟨RX7, "below", "(I)I"⟩
abbrev cX7_content : ByteArray := prog_1_method_12_code
def yX7_content : MethodName := ⟨RX7, "content", "(IIIII)I"⟩
abbrev cX7_factor : ByteArray := prog_1_method_13_code
def yX7_factor : MethodName := ⟨RX7, "factor", "(II)I"⟩
abbrev cX7_sum : ByteArray := prog_1_method_14_code
def yX7_sum : MethodName := ⟨RX7, "sum", "(I)I"⟩
abbrev cX7_go : ByteArray := prog_1_method_15_code
def yX7_go : MethodName := ⟨RX7, "go", "(I)I"⟩
abbrev cX7_right : ByteArray := prog_1_method_16_code
def yX7_right : MethodName := ⟨RX7, "right", "()I"⟩
abbrev cX7_exchange : ByteArray := prog_1_method_17_code
def yX7_exchange : MethodName := ⟨RX7, "exchange", "(II)I"⟩
abbrev cX7_back : ByteArray := prog_1_method_18_code
def yX7_back : MethodName := ⟨RX7, "back", "()I"⟩
abbrev cX7_cycles : ByteArray := prog_1_method_19_code
def yX7_cycles : MethodName := ⟨RX7, "cycles", "()I"⟩
abbrev cX7_cycleOf : ByteArray := prog_1_method_20_code
def yX7_cycleOf : MethodName := ⟨RX7, "cycleOf", "(I)I"⟩
abbrev cX7_cycle : ByteArray := prog_1_method_21_code
def yX7_cycle : MethodName := ⟨RX7, "cycle", "(II)I"⟩
abbrev cX7_join : ByteArray := prog_1_method_22_code
def yX7_join : MethodName := ⟨RX7, "join", "()I"⟩
abbrev cX7_round : ByteArray := prog_1_method_23_code
def yX7_round : MethodName := ⟨RX7, "round", "(I)I"⟩
abbrev cX7_letter : ByteArray := prog_1_method_24_code
def yX7_letter : MethodName := ⟨RX7, "letter", "(I)I"⟩
abbrev cX7_place : ByteArray := prog_1_method_25_code
def yX7_place : MethodName := ⟨RX7, "place", "(I)I"⟩
abbrev cX7_way : ByteArray := prog_1_method_26_code
def yX7_way : MethodName := ⟨RX7, "way", "(II)I"⟩
abbrev cX7_tape : ByteArray := prog_1_method_27_code
def yX7_tape : MethodName := ⟨RX7, "tape", "(III)I"⟩
abbrev cX7_lose : ByteArray := prog_1_method_28_code
def yX7_lose : MethodName := ⟨RX7, "lose", "(I)I"⟩
abbrev cX7_put : ByteArray := prog_1_method_29_code
def yX7_put : MethodName := ⟨RX7, "put", "(IIII)I"⟩
abbrev cX7_get : ByteArray := prog_1_method_30_code
def yX7_get : MethodName := ⟨RX7, "get", "(III)I"⟩
abbrev cX7_copy : ByteArray := prog_1_method_31_code
def yX7_copy : MethodName := ⟨RX7, "copy", "(IIIII)I"⟩
abbrev cX7_print : ByteArray := prog_1_method_32_code
def yX7_print : MethodName := ⟨RX7, "print", "(IIII)I"⟩
abbrev cX7_find : ByteArray := prog_1_method_33_code
def yX7_find : MethodName := ⟨RX7, "find", "(IIII)I"⟩
abbrev cX7_found : ByteArray := prog_1_method_34_code
def yX7_found : MethodName := ⟨RX7, "found", "()I"⟩
abbrev cX7_twice : ByteArray := prog_1_method_35_code
def yX7_twice : MethodName := ⟨RX7, "twice", "(I)I"⟩
abbrev cX7_parts : ByteArray := prog_1_method_36_code
def yX7_parts : MethodName := ⟨RX7, "parts", "(I)I"⟩
abbrev cX7_part : ByteArray := prog_1_method_37_code
def yX7_part : MethodName := ⟨RX7, "part", "(I)I"⟩
abbrev cX7_recurrence : ByteArray := prog_1_method_38_code
def yX7_recurrence : MethodName := ⟨RX7, "recurrence", "(I)I"⟩
abbrev cX7_coefficient : ByteArray := prog_1_method_39_code
def yX7_coefficient : MethodName := ⟨RX7, "coefficient", "(I)I"⟩
abbrev cX7_count : ByteArray := prog_1_method_40_code
def yX7_count : MethodName := ⟨RX7, "count", "(I)I"⟩
abbrev cX7_digest : ByteArray := prog_1_method_41_code
def yX7_digest : MethodName := ⟨RX7, "digest", "()J"⟩
abbrev cX7_isTape : ByteArray := prog_1_method_42_code
def yX7_isTape : MethodName := ⟨RX7, "isTape", "(I)Z"⟩
abbrev cX7_isForm : ByteArray := prog_1_method_43_code
def yX7_isForm : MethodName := ⟨RX7, "isForm", "(I)Z"⟩
abbrev cX7_finding : ByteArray := prog_1_method_44_code
def yX7_finding : MethodName := ⟨RX7, "finding", "(I)I"⟩
abbrev cX7_faultOfItem : ByteArray := prog_1_method_45_code
def yX7_faultOfItem : MethodName := ⟨RX7, "faultOfItem", "(LWordWheel$Tape;II)I"⟩
def RX8 : String := "WordWheelModel"
def TX8 : u_T := fun k => match k with
  | 0 => ("WordWheelModel", "k", "I", false)
  | 1 => ("WordWheelModel", "n", "I", false)
  | 2 => ("WordWheelModel", "all", "I", false)
  | 3 => ("WordWheelModel", "leasts", "[I", true)
  | 4 => ("WordWheelModel", "wanted", "[I", true)
  | 5 => ("WordWheelModel", "had", "[I", true)
  | 6 => ("WordWheelModel", "factors", "[I", true)
  | 7 => ("WordWheelModel", "sum", "I", false)
  | 8 => ("WordWheelModel", "to", "[I", true)
  | 9 => ("WordWheelModel", "exchanges", "I", false)
  | 10 => ("WordWheelModel", "one", "[I", true)
  | 11 => ("WordWheelModel", "other", "[I", true)
  | 12 => ("WordWheelModel", "seen", "[Z", true)
  | 13 => ("WordWheelModel", "number", "[I", true)
  | 14 => ("WordWheelModel", "cycleMany", "I", false)
  | 15 => ("WordWheelModel", "group", "[I", true)
  | 16 => ("WordWheelModel", "which", "I", false)
  | 17 => ("WordWheelModel", "round", "[I", true)
  | 18 => ("WordWheelModel", "placeOf", "[I", true)
  | 19 => ("WordWheelModel", "forms", "[I", true)
  | 20 => ("WordWheelModel", "sizes", "[I", true)
  | 21 => ("WordWheelModel", "items", "[I", true)
  | 22 => ("WordWheelModel", "moved", "[I", true)
  | 23 => ("WordWheelModel", "latest", "I", false)
  | 24 => ("WordWheelModel", "firstFound", "I", false)
  | 25 => ("WordWheelModel", "partMany", "I", false)
  | 26 => ("WordWheelModel", "partAt", "[I", true)
  | 27 => ("WordWheelModel", "length", "I", false)
  | 28 => ("WordWheelModel", "told", "[I", true)
  | 29 => ("WordWheelModel", "now", "[I", true)
  | 30 => ("WordWheelModel", "before", "[I", true)
  | 31 => ("WordWheelModel", "kept", "[I", true)
  | _ => ("WordWheelModel", "matrix", "[I", true)
def tyX8 : Nat → FieldType := fun k => match k with
  | 0 => .int
  | 1 => .int
  | 2 => .int
  | 3 => .array .int
  | 4 => .array .int
  | 5 => .array .int
  | 6 => .array .int
  | 7 => .int
  | 8 => .array .int
  | 9 => .int
  | 10 => .array .int
  | 11 => .array .int
  | 12 => .array .boolean
  | 13 => .array .int
  | 14 => .int
  | 15 => .array .int
  | 16 => .int
  | 17 => .array .int
  | 18 => .array .int
  | 19 => .array .int
  | 20 => .array .int
  | 21 => .array .int
  | 22 => .array .int
  | 23 => .int
  | 24 => .int
  | 25 => .int
  | 26 => .array .int
  | 27 => .int
  | 28 => .array .int
  | 29 => .array .int
  | 30 => .array .int
  | 31 => .array .int
  | _ => .array .int
abbrev wsX80 : List Cond := u_ws RX8 TX8 33
theorem nmX8 : ∀ a, a < 33 → ∀ b, b < 33 → a ≠ b → (TX8 a).2.1 ≠ (TX8 b).2.1 := by decide +kernel
theorem tyX8_ok : ∀ k, k < 33 → parseFieldDescriptor (TX8 k).2.2.1 = some (tyX8 k) := by decide +kernel
abbrev cX8_init : ByteArray := prog_10_method_1_code
def yX8_init : MethodName := ⟨RX8, "<init>", "()V"⟩
abbrev cX8_in : ByteArray := prog_10_method_3_code
def yX8_in : MethodName := ⟨RX8, "in", "(JJJ)Z"⟩
abbrev cX8_wheel : ByteArray := prog_10_method_4_code
def yX8_wheel : MethodName := ⟨RX8, "wheel", "(II)I"⟩
abbrev cX8_isWord : ByteArray := prog_10_method_5_code
def yX8_isWord : MethodName := ⟨RX8, "isWord", "(I)Z"⟩
abbrev cX8_next : ByteArray := prog_10_method_6_code
def yX8_next : MethodName := ⟨RX8, "next", "(I)I"⟩
abbrev cX8_leastOf : ByteArray := prog_10_method_7_code
def yX8_leastOf : MethodName := ⟨RX8, "leastOf", "(I)I"⟩
abbrev cX8_turn : ByteArray := prog_10_method_8_code
def yX8_turn : MethodName := ⟨RX8, "turn", "(II)I"⟩
abbrev cX8_least : ByteArray := prog_10_method_9_code
def yX8_least : MethodName := ⟨RX8, "least", "(I)I"⟩
abbrev cX8_steps : ByteArray := prog_10_method_10_code
def yX8_steps : MethodName := ⟨RX8, "steps", "(I)I"⟩
abbrev cX8_sizeOf : ByteArray := prog_10_method_11_code
def yX8_sizeOf : MethodName := ⟨RX8, "sizeOf", "(I)I"⟩
abbrev cX8_size : ByteArray := prog_10_method_12_code
def yX8_size : MethodName := ⟨RX8, "size", "(I)I"⟩
abbrev cX8_even : ByteArray := prog_10_method_13_code
def yX8_even : MethodName := ⟨RX8, "even", "(I)I"⟩
abbrev cX8_rings : ByteArray := prog_10_method_14_code
def yX8_rings : MethodName := ⟨RX8, "rings", "()I"⟩
abbrev cX8_ringOf : ByteArray := prog_10_method_15_code
def yX8_ringOf : MethodName := ⟨RX8, "ringOf", "(I)I"⟩
abbrev cX8_ring : ByteArray := prog_10_method_16_code
def yX8_ring : MethodName := ⟨RX8, "ring", "(I)I"⟩
abbrev cX8_below : ByteArray := prog_10_method_17_code
def yX8_below : MethodName := ⟨RX8, "below", "(I)I"⟩
abbrev cX8_content : ByteArray := prog_10_method_18_code
def yX8_content : MethodName := ⟨RX8, "content", "(IIIII)I"⟩
abbrev cX8_hasWanted : ByteArray := prog_10_method_19_code
def yX8_hasWanted : MethodName := ⟨RX8, "hasWanted", "(I)Z"⟩
abbrev cX8_lead : ByteArray := prog_10_method_20_code
def yX8_lead : MethodName := ⟨RX8, "lead", "()V"⟩
abbrev cX8_factor : ByteArray := prog_10_method_21_code
def yX8_factor : MethodName := ⟨RX8, "factor", "(II)I"⟩
abbrev cX8_sum : ByteArray := prog_10_method_22_code
def yX8_sum : MethodName := ⟨RX8, "sum", "(I)I"⟩
abbrev cX8_go : ByteArray := prog_10_method_23_code
def yX8_go : MethodName := ⟨RX8, "go", "(I)I"⟩
abbrev cX8_isRight : ByteArray := prog_10_method_24_code
def yX8_isRight : MethodName := ⟨RX8, "isRight", "()Z"⟩
abbrev cX8_right : ByteArray := prog_10_method_25_code
def yX8_right : MethodName := ⟨RX8, "right", "()I"⟩
abbrev cX8_findCycles : ByteArray := prog_10_method_26_code
def yX8_findCycles : MethodName := ⟨RX8, "findCycles", "()V"⟩
abbrev cX8_swap : ByteArray := prog_10_method_27_code
def yX8_swap : MethodName := ⟨RX8, "swap", "(II)V"⟩
abbrev cX8_exchange : ByteArray := prog_10_method_28_code
def yX8_exchange : MethodName := ⟨RX8, "exchange", "(II)I"⟩
abbrev cX8_back : ByteArray := prog_10_method_29_code
def yX8_back : MethodName := ⟨RX8, "back", "()I"⟩
abbrev cX8_cycles : ByteArray := prog_10_method_30_code
def yX8_cycles : MethodName := ⟨RX8, "cycles", "()I"⟩
abbrev cX8_cycleOf : ByteArray := prog_10_method_31_code
def yX8_cycleOf : MethodName := ⟨RX8, "cycleOf", "(I)I"⟩
abbrev cX8_cycle : ByteArray := prog_10_method_32_code
def yX8_cycle : MethodName := ⟨RX8, "cycle", "(II)I"⟩
abbrev cX8_groupOf : ByteArray := prog_10_method_33_code
def yX8_groupOf : MethodName := ⟨RX8, "groupOf", "(I)I"⟩
abbrev cX8_joins : ByteArray := prog_10_method_34_code
def yX8_joins : MethodName := ⟨RX8, "joins", "(Z)I"⟩
abbrev cX8_join : ByteArray := prog_10_method_35_code
def yX8_join : MethodName := ⟨RX8, "join", "()I"⟩
abbrev cX8_leastRound : ByteArray := prog_10_method_36_code
def yX8_leastRound : MethodName := ⟨RX8, "leastRound", "()V"⟩
abbrev cX8_greedyRound : ByteArray := prog_10_method_37_code
def yX8_greedyRound : MethodName := ⟨RX8, "greedyRound", "()V"⟩
abbrev cX8_round : ByteArray := prog_10_method_38_code
def yX8_round : MethodName := ⟨RX8, "round", "(I)I"⟩
abbrev cX8_letter : ByteArray := prog_10_method_39_code
def yX8_letter : MethodName := ⟨RX8, "letter", "(I)I"⟩
abbrev cX8_place : ByteArray := prog_10_method_40_code
def yX8_place : MethodName := ⟨RX8, "place", "(I)I"⟩
abbrev cX8_way : ByteArray := prog_10_method_41_code
def yX8_way : MethodName := ⟨RX8, "way", "(II)I"⟩
abbrev cX8_met : ByteArray := prog_10_method_42_code
def yX8_met : MethodName := ⟨RX8, "met", "(I)I"⟩
abbrev cX8_isTape : ByteArray := prog_10_method_43_code
def yX8_isTape : MethodName := ⟨RX8, "isTape", "(I)Z"⟩
abbrev cX8_tape : ByteArray := prog_10_method_44_code
def yX8_tape : MethodName := ⟨RX8, "tape", "(III)I"⟩
abbrev cX8_lose : ByteArray := prog_10_method_45_code
def yX8_lose : MethodName := ⟨RX8, "lose", "(I)I"⟩
abbrev cX8_lacks : ByteArray := prog_10_method_46_code
def yX8_lacks : MethodName := ⟨RX8, "lacks", "(III)I"⟩
abbrev cX8_put : ByteArray := prog_10_method_47_code
def yX8_put : MethodName := ⟨RX8, "put", "(IIII)I"⟩
abbrev cX8_get : ByteArray := prog_10_method_48_code
def yX8_get : MethodName := ⟨RX8, "get", "(III)I"⟩
abbrev cX8_isWithin : ByteArray := prog_10_method_49_code
def yX8_isWithin : MethodName := ⟨RX8, "isWithin", "(III)Z"⟩
abbrev cX8_copy : ByteArray := prog_10_method_50_code
def yX8_copy : MethodName := ⟨RX8, "copy", "(IIIII)I"⟩
abbrev cX8_print : ByteArray := prog_10_method_51_code
def yX8_print : MethodName := ⟨RX8, "print", "(IIII)I"⟩
abbrev cX8_find : ByteArray := prog_10_method_52_code
def yX8_find : MethodName := ⟨RX8, "find", "(IIII)I"⟩
abbrev cX8_found : ByteArray := prog_10_method_53_code
def yX8_found : MethodName := ⟨RX8, "found", "()I"⟩
abbrev cX8_noLetters : ByteArray := prog_10_method_54_code
def yX8_noLetters : MethodName := ⟨RX8, "noLetters", "(I)I"⟩
abbrev cX8_twice : ByteArray := prog_10_method_55_code
def yX8_twice : MethodName := ⟨RX8, "twice", "(I)I"⟩
abbrev cX8_parts : ByteArray := prog_10_method_56_code
def yX8_parts : MethodName := ⟨RX8, "parts", "(I)I"⟩
abbrev cX8_part : ByteArray := prog_10_method_57_code
def yX8_part : MethodName := ⟨RX8, "part", "(I)I"⟩
abbrev cX8_inverse : ByteArray := prog_10_method_58_code
def yX8_inverse : MethodName := ⟨RX8, "inverse", "(I)I"⟩
abbrev cX8_leastLength : ByteArray := prog_10_method_59_code
def yX8_leastLength : MethodName := ⟨RX8, "leastLength", "(I)I"⟩
abbrev cX8_solve : ByteArray := prog_10_method_60_code
def yX8_solve : MethodName := ⟨RX8, "solve", "(II)V"⟩
abbrev cX8_recurrence : ByteArray := prog_10_method_61_code
def yX8_recurrence : MethodName := ⟨RX8, "recurrence", "(I)I"⟩
abbrev cX8_coefficient : ByteArray := prog_10_method_62_code
def yX8_coefficient : MethodName := ⟨RX8, "coefficient", "(I)I"⟩
abbrev cX8_count : ByteArray := prog_10_method_63_code
def yX8_count : MethodName := ⟨RX8, "count", "(I)I"⟩
abbrev cX8_digest : ByteArray := prog_10_method_64_code
def yX8_digest : MethodName := ⟨RX8, "digest", "()J"⟩
def RJ13 : String := "java/lang/Long"
abbrev cJ13_bitCount_95d88 : ByteArray := prog_11_method_50_code
def yJ13_bitCount_95d88 : MethodName := ⟨RJ13, "bitCount", "(J)I"⟩
def RJ9 : String := "java/lang/Math"
abbrev cJ9_min_7cf53 : ByteArray := prog_12_method_69_code
def yJ9_min_7cf53 : MethodName := ⟨RJ9, "min", "(II)I"⟩
def RJ10 : String := "java/lang/System"
def RJ7 : String := "java/util/Arrays"
abbrev cJ7_rangeCheck_23922 : ByteArray := prog_14_method_30_code
def yJ7_rangeCheck_23922 : MethodName := ⟨RJ7, "rangeCheck", "(III)V"⟩
abbrev cJ7_fill_d0a16 : ByteArray := prog_14_method_101_code
def yJ7_fill_d0a16 : MethodName := ⟨RJ7, "fill", "([JJ)V"⟩
abbrev cJ7_fill_53178 : ByteArray := prog_14_method_103_code
def yJ7_fill_53178 : MethodName := ⟨RJ7, "fill", "([II)V"⟩
abbrev cJ7_fill_fda19 : ByteArray := prog_14_method_104_code
def yJ7_fill_fda19 : MethodName := ⟨RJ7, "fill", "([IIII)V"⟩
abbrev cJ7_fill_eb02e : ByteArray := prog_14_method_110_code
def yJ7_fill_eb02e : MethodName := ⟨RJ7, "fill", "([BIIB)V"⟩
def RL : String := "WordWheelLaw"
abbrev cL_law : ByteArray := code
def yL_law : MethodName := ⟨RL, "law", "([I)Z"⟩
abbrev vwCl : List vw_C := [(RX0, TX0, 2), (RX1, TX1, 5), (RX2, TX2, 14), (RX3, TX3, 4), (RX4, TX4, 8), (RX5, TX5, 5), (RX6, TX6, 5), (RX7, TX7, 9), (RX8, TX8, 33)]
end
section
/-! the words that every method of ours is given: all of the tables' that go through a call; nest mates' links apart -/
def gw : List Cond := lw_tbl.filter goodWord
def is_N : Cond → Bool
  | .fieldLinkNest .. => true
  | .methodLinkNest .. => true
  | _ => false
def nw : List Cond := lw_tbl.filter is_N
theorem gw_in {w : Cond} (h : w ∈ lw_tbl) (hg : goodWord w = true) : w ∈ gw := List.mem_filter.mpr ⟨h, hg⟩
theorem nw_in {w : Cond} (h : w ∈ lw_tbl) (hg : is_N w = true) : w ∈ nw := List.mem_filter.mpr ⟨h, hg⟩
theorem gw_good {w : Cond} (h : w ∈ gw) : (w.onTables && w.keeps) = true ∨ ∃ ty, w = .arrayClass ty := good_of_word (List.mem_filter.mp h).2
theorem nw_warm {w : Cond} (h : w ∈ nw) {s U : State} (hW : s.WarmedH U.vm) (hZ : va_Nw w s) : va_Nw w U := by
  have h2 := (List.mem_filter.mp h).2
  cases w <;> first | exact va_Nw.warmF hW hZ | exact va_Nw.warmM hW hZ | (simp [is_N] at h2)
theorem nw_tab {w : Cond} (h : w ∈ nw) : w.onTables = true := by
  have h2 := (List.mem_filter.mp h).2
  cases w <;> first | rfl | (simp [is_N] at h2)
theorem in_X0 : ∀ w ∈ wsX00, w ∈ lw_tbl := by decide +kernel
theorem in_X1 : ∀ w ∈ wsX10, w ∈ lw_tbl := by decide +kernel
theorem in_X2 : ∀ w ∈ wsX20, w ∈ lw_tbl := by decide +kernel
theorem in_X3 : ∀ w ∈ wsX30, w ∈ lw_tbl := by decide +kernel
theorem in_X4 : ∀ w ∈ wsX40, w ∈ lw_tbl := by decide +kernel
theorem in_X5 : ∀ w ∈ wsX50, w ∈ lw_tbl := by decide +kernel
theorem in_X6 : ∀ w ∈ wsX60, w ∈ lw_tbl := by decide +kernel
theorem in_X7 : ∀ w ∈ wsX70, w ∈ lw_tbl := by decide +kernel
theorem in_X8 : ∀ w ∈ wsX80, w ∈ lw_tbl := by decide +kernel
theorem lay_good (C : String) (T : u_T) (k : Nat) : goodWord (u_lay C T k) = true := by
  unfold u_lay
  split <;> rfl
theorem ws_good {C : String} {T : u_T} {N : Nat} {w : Cond} (h : w ∈ u_ws C T N) : goodWord w = true := by
  obtain ⟨k, -, rfl⟩ := List.mem_map.mp h
  exact lay_good C T k
theorem gw_cls {ci : Nat} {r : vw_C} (h : vwCl[ci]? = some r) : ∀ w ∈ u_ws r.1 r.2.1 r.2.2, w ∈ gw := by
  intro w hw
  refine gw_in ?_ (ws_good hw)
  match ci, h with
  | 0, h => cases h; exact in_X0 w hw
  | 1, h => cases h; exact in_X1 w hw
  | 2, h => cases h; exact in_X2 w hw
  | 3, h => cases h; exact in_X3 w hw
  | 4, h => cases h; exact in_X4 w hw
  | 5, h => cases h; exact in_X5 w hw
  | 6, h => cases h; exact in_X6 w hw
  | 7, h => cases h; exact in_X7 w hw
  | 8, h => cases h; exact in_X8 w hw
  | k + 9, h => simp [vwCl] at h
/-- the field types, by class -/
def cl_ty (ci : Nat) : Nat → FieldType := match ci with
  | 0 => tyX0
  | 1 => tyX1
  | 2 => tyX2
  | 3 => tyX3
  | 4 => tyX4
  | 5 => tyX5
  | 6 => tyX6
  | 7 => tyX7
  | _ => tyX8
theorem cl_tyok {ci : Nat} {r : vw_C} (h : vwCl[ci]? = some r) : ∀ k, k < r.2.2 → parseFieldDescriptor (r.2.1 k).2.2.1 = some (cl_ty ci k) := by
  match ci, h with
  | 0, h => cases h; exact tyX0_ok
  | 1, h => cases h; exact tyX1_ok
  | 2, h => cases h; exact tyX2_ok
  | 3, h => cases h; exact tyX3_ok
  | 4, h => cases h; exact tyX4_ok
  | 5, h => cases h; exact tyX5_ok
  | 6, h => cases h; exact tyX6_ok
  | 7, h => cases h; exact tyX7_ok
  | 8, h => cases h; exact tyX8_ok
  | k + 9, h => simp [vwCl] at h
theorem cl_nm {ci : Nat} {r : vw_C} (h : vwCl[ci]? = some r) : ∀ a, a < r.2.2 → ∀ b, b < r.2.2 → a ≠ b → (r.2.1 a).2.1 ≠ (r.2.1 b).2.1 := by
  match ci, h with
  | 0, h => cases h; exact nmX0
  | 1, h => cases h; exact nmX1
  | 2, h => cases h; exact nmX2
  | 3, h => cases h; exact nmX3
  | 4, h => cases h; exact nmX4
  | 5, h => cases h; exact nmX5
  | 6, h => cases h; exact nmX6
  | 7, h => cases h; exact nmX7
  | 8, h => cases h; exact nmX8
  | k + 9, h => simp [vwCl] at h
end
section
/-! OUR OWN JUDGEMENT over the kit's: cells have numbers (2, 3 .. in the order in which they are made; 0 is the script, 1 the table TOTIENT), a heap is a function from numbers to cells (of 0: how many there are) -/
abbrev ce : Type := Nat × (List Value ⊕ (Nat × ((Nat → Int32) ⊕ (Nat → Int64) ⊕ (Nat → Option Nat))))
abbrev ah : Type := Nat → ce
abbrev gx : Type := Launch × (Nat × Nat × Nat) × va_G × (Nat → ClassId) × Nat × (Nat → Int32)
def g_l (G : gx) : Launch := G.1
def g_s (G : gx) : Nat := G.2.1.1
def g_t (G : gx) : Nat := G.2.1.2.1
def g_b (G : gx) : Nat := G.2.1.2.2
def g_D (G : gx) : va_G := G.2.2.1
def g_T (G : gx) : Nat → ClassId := G.2.2.2.1
def g_n (G : gx) : Nat := G.2.2.2.2.1
def g_x (G : gx) : Nat → Int32 := G.2.2.2.2.2
def g_A (G : gx) : Nat → Prop := fun q => g_b G ≤ q
def ad (G : gx) (k : Nat) : Nat := match k with
  | 0 => g_s G
  | 1 => g_t G
  | k + 2 => g_b G + k
def cv (G : gx) (v : Value) : Value := match v with
  | .ref k => .ref (ad G k)
  | v => v
def cx (G : gx) (e : ce) : va_E := match e with
  | (ci, .inl fs) => .inr (ci, fs.map (cv G))
  | (t, .inr (n, .inl f)) => .inl (g_T G t, n, .inl f)
  | (t, .inr (n, .inr (.inl f))) => .inl (g_T G t, n, .inr (.inl f))
  | (t, .inr (n, .inr (.inr f))) => .inl (g_T G t, n, .inr (.inr (.inr (.inr (fun j => (f j).map (ad G))))))
def wl (G : gx) (h : ah) : va_W := (List.range (h 0).1).map (fun k => (g_b G + k, cx G (h (k + 2))))
def Hp (G : gx) (h : ah) (H : Heap) : Prop := va_P (g_D G) vwCl (wl G h) H ∧ (∀ k, (h (k + 2)).1 < 100 → k < (h 0).1) ∧ H.size = g_b G + (h 0).1
def g_ty (G : gx) : List (ClassId × FieldType) := [(g_T G 0, .int), (g_T G 1, .byte), (g_T G 2, .boolean), (g_T G 3, .long), (g_T G 4, .object "WordWheel$Tape")]
def Kt (G : gx) (U : State) : Prop := va_K (g_D G) vwCl (g_ty G) U ∧ ∀ w ∈ nw, va_Nw w U
def totL : List Int32 := [0, 1, 1, 2, 2, 4, 2, 6, 4, 6, 4, 10, 4, 12, 6]
def totF (j : Nat) : Int32 := totL.getD j 0
def Ro (G : gx) (U : State) (H : Heap) : Prop := va_X (g_s G) (g_n G) (g_x G) U H ∧ va_X (g_t G) 15 totF U H ∧ va_Z RX3 "TOTIENT" "[I" (.ref (g_t G)) (g_A G) U H ∧ g_s G < g_b G ∧ g_t G < g_b G
def PU (G : gx) (h : ah) (U : State) : Prop := Hp G h U.heap ∧ Kt G U ∧ Ro G U U.heap
abbrev my : Type := MethodName × ByteArray × Nat × Option FieldType
def w_s (y : my) : List Cond := .code y.1 y.2.1 y.2.2.1 y.2.2.2 :: gw
def r_lo (d : Nat) : Nat := if d = 9 then 328 else 33 * d
def r_m (d mc ms : Nat) : Room := { frames := d, cells := mc, slots := ms, locals := r_lo d }
def Qm (G : gx) (Q : Option Value → ah → Prop) : Array Value → State → Outcome → State → Prop := fun _ st o t => (∃ (r : Option Value) (h : ah), o = .returned (r.map (cv G)) ∧ Q r h ∧ Hp G h t.heap) ∧ va_F (g_A G) st t
/-- a method's contract: from the heap h with the arguments a it comes to Q -/
def Ct (G : gx) (y : my) (d mc ms : Nat) (a : List Value) (h : ah) (Q : Option Value → ah → Prop) : Prop :=
  Met (g_l G) y.1 (w_s y) (r_m d mc ms) (va_Pc (a.map (cv G)) (PU G h)) (Qm G Q) mc ms (g_A G)
def Cx (G : gx) (y : my) (p : Program) (s : State) (m : MethodId) (args : Array Value) (meth : Method) (c : Code) : Prop :=
  p.tables.exec = Jvm.exec ∧ c.code = y.2.1 ∧ meth.sig.returnType = y.2.2.2 ∧ c.maxLocals = y.2.2.1 ∧ s.vm.findClass y.1.cls = some m.cls ∧ (∀ w ∈ w_s y, w.before args s = true) ∧ meth.locks = false ∧ meth.name = y.1.name ∧ Kt G s ∧ Ro G s s.heap ∧ g_b G ≤ s.heap.size
/-- the locals, by their places -/
def lq (G : gx) : Nat → List (Option Value) → List (Nat × Value)
  | _, [] => []
  | i, none :: r => lq G (i + 1) r
  | i, some v :: r => (i, cv G v) :: lq G (i + 1) r
def ki (o : Option Value) : Option Value := match o with
  | some (.long _) => none
  | some (.double _) => none
  | o => o
def st1 : Nat → Value → List (Option Value) → List (Option Value)
  | 0, v, L => some v :: L.tail
  | i + 1, v, [] => none :: st1 i v []
  | 1, v, o :: r => ki o :: st1 0 v r
  | i + 2, v, o :: r => o :: st1 (i + 1) v r
def st2 : Nat → Value → List (Option Value) → List (Option Value)
  | 0, v, L => some v :: none :: L.tail.tail
  | i + 1, v, [] => none :: st2 i v []
  | 1, v, o :: r => ki o :: st2 0 v r
  | i + 2, v, o :: r => o :: st2 (i + 1) v r
abbrev bg : Type := Nat × Nat × Nat × Nat × Nat
/-- from place pc of the method y with locals L, stack S, heap h: it comes to an end with Q. b: depth, cells and slots in all, cells and slots made so far -/
def V (G : gx) (y : my) (b : bg) (pc : Nat) (L : List (Option Value)) (S : List Value) (h : ah) (Q : Option Value → ah → Prop) : Prop :=
  ∀ (p : Program) (e : Env) (s : State) (m : MethodId) (args : Array Value) (below : List Frame) (meth : Method) (c : Code) (H : Heap) (locs : List Loc) (ls : Array Slot),
    Cx G y p s m args meth c → b.2.2.2.1 ≤ b.2.1 → b.2.2.2.2 ≤ b.2.2.1 → Hp G h H → va_S (g_A G) s.heap H locs → lv_has ls y.2.2.1 (lq G 0 L) →
    W p (g_l G) e (r_m b.1 b.2.1 b.2.2.1) s m args below meth c H locs b.2.2.2.1 b.2.2.2.2 (MQ below (Qm G Q) args s b.2.1 b.2.2.1 (g_A G)) (F0 m pc ls (S.map (cv G)))
theorem cv_cat (G : gx) (v : Value) : (cv G v).category = v.category := by cases v <;> rfl
theorem lq_get (G : gx) : ∀ (L : List (Option Value)) (j i : Nat) (v : Value), L[i]? = some (some v) → (j + i, cv G v) ∈ lq G j L
  | [], _, _, _, h => by simp at h
  | none :: r, j, 0, v, h => by simp at h
  | none :: r, j, i + 1, v, h => by
    have := lq_get G r (j + 1) i v (by simpa using h)
    rw [show j + (i + 1) = j + 1 + i by omega]
    exact this
  | some w :: r, j, 0, v, h => by
    have : w = v := by simpa using h
    subst this
    exact List.mem_cons_self
  | some w :: r, j, i + 1, v, h => by
    have := lq_get G r (j + 1) i v (by simpa using h)
    rw [show j + (i + 1) = j + 1 + i by omega]
    exact List.mem_cons_of_mem _ this
theorem lq_ge (G : gx) : ∀ (L : List (Option Value)) (j : Nat) (q : Nat × Value), q ∈ lq G j L → j ≤ q.1
  | [], _, _, h => by simp [lq] at h
  | none :: r, j, q, h => by
    have := lq_ge G r (j + 1) q (by simpa [lq] using h)
    omega
  | some w :: r, j, q, h => by
    rcases List.mem_cons.mp (show q ∈ (j, cv G w) :: lq G (j + 1) r from h) with rfl | h
    · exact Nat.le_refl _
    · have := lq_ge G r (j + 1) q h
      omega
theorem lq_tail (G : gx) {L : List (Option Value)} {j : Nat} {q : Nat × Value} (h : q ∈ lq G (j + 1) L.tail) : q ∈ lq G j L := by
  match L with
  | [] => simp [lq] at h
  | none :: r => exact h
  | some w :: r => exact List.mem_cons_of_mem _ h
theorem ki_cat {o : Option Value} {v : Value} (h : ki o = some v) : o = some v ∧ v.category = 1 := by
  match o with
  | none => simp [ki] at h
  | some w => cases w <;> simp [ki] at h <;> subst h <;> exact ⟨rfl, rfl⟩
theorem lq_st1 (G : gx) (v : Value) : ∀ (i : Nat) (L : List (Option Value)) (j : Nat) (q : Nat × Value), q ∈ lq G j (st1 i v L) → q = (j + i, cv G v) ∨ (q ∈ lq G j L ∧ q.1 ≠ j + i ∧ ¬ (q.1 + 1 = j + i ∧ q.2.category = 2))
  | 0, L, j, q, h => by
    rcases List.mem_cons.mp (show q ∈ (j, cv G v) :: lq G (j + 1) L.tail from h) with rfl | h
    · exact Or.inl rfl
    · have := lq_ge G _ _ _ h
      exact Or.inr ⟨lq_tail G h, by omega, by omega⟩
  | i + 1, [], j, q, h => by
    have h2 : q ∈ lq G (j + 1) (st1 i v []) := h
    rcases lq_st1 G v i [] (j + 1) q h2 with rfl | ⟨h3, -⟩
    · exact Or.inl (by rw [show j + 1 + i = j + (i + 1) by omega])
    · simp [lq] at h3
  | 1, o :: r, j, q, h => by
    have h2 : q ∈ lq G j (ki o :: some v :: r.tail) := h
    cases hk : ki o with
    | none =>
      rw [hk] at h2
      rcases List.mem_cons.mp (show q ∈ (j + 1, cv G v) :: lq G (j + 1 + 1) r.tail from h2) with rfl | h3
      · exact Or.inl rfl
      · have h4 := lq_ge G _ _ _ h3
        refine Or.inr ⟨lq_tail G (L := o :: r) (lq_tail G (L := r) h3), by omega, by omega⟩
    | some w =>
      rw [hk] at h2
      obtain ⟨ho, hw⟩ := ki_cat hk
      subst ho
      rcases List.mem_cons.mp (show q ∈ (j, cv G w) :: (j + 1, cv G v) :: lq G (j + 1 + 1) r.tail from h2) with rfl | h3
      · exact Or.inr ⟨List.mem_cons_self, by simp, fun z => by have z2 := z.2; rw [cv_cat, hw] at z2; omega⟩
      · rcases List.mem_cons.mp h3 with rfl | h3
        · exact Or.inl rfl
        · have h4 := lq_ge G _ _ _ h3
          refine Or.inr ⟨lq_tail G (L := some w :: r) (lq_tail G (L := r) h3), by omega, by omega⟩
  | i + 2, o :: r, j, q, h => by
    have h2 : q ∈ lq G j (o :: st1 (i + 1) v r) := h
    have key : q ∈ lq G (j + 1) (st1 (i + 1) v r) → q = (j + (i + 2), cv G v) ∨ (q ∈ lq G j (o :: r) ∧ q.1 ≠ j + (i + 2) ∧ ¬ (q.1 + 1 = j + (i + 2) ∧ q.2.category = 2)) := by
      intro h3
      rcases lq_st1 G v (i + 1) r (j + 1) q h3 with rfl | ⟨a, b, c⟩
      · exact Or.inl (by rw [show j + 1 + (i + 1) = j + (i + 2) by omega])
      · exact Or.inr ⟨lq_tail G (L := o :: r) a, by omega, by rw [show j + (i + 2) = j + 1 + (i + 1) by omega]; exact c⟩
    cases o with
    | none => exact key h2
    | some w =>
      rcases List.mem_cons.mp (show q ∈ (j, cv G w) :: lq G (j + 1) (st1 (i + 1) v r) from h2) with rfl | h3
      · exact Or.inr ⟨List.mem_cons_self, by simp, by simp⟩
      · exact key h3
theorem lq_st2 (G : gx) (v : Value) : ∀ (i : Nat) (L : List (Option Value)) (j : Nat) (q : Nat × Value), q ∈ lq G j (st2 i v L) → q = (j + i, cv G v) ∨ (q ∈ lq G j L ∧ q.1 ≠ j + i ∧ q.1 ≠ j + i + 1 ∧ ¬ (q.1 + 1 = j + i ∧ q.2.category = 2))
  | 0, L, j, q, h => by
    rcases List.mem_cons.mp (show q ∈ (j, cv G v) :: lq G (j + 1 + 1) L.tail.tail from h) with rfl | h
    · exact Or.inl rfl
    · have := lq_ge G _ _ _ h
      exact Or.inr ⟨lq_tail G (lq_tail G h), by omega, by omega, by omega⟩
  | i + 1, [], j, q, h => by
    have h2 : q ∈ lq G (j + 1) (st2 i v []) := h
    rcases lq_st2 G v i [] (j + 1) q h2 with rfl | ⟨h3, -⟩
    · exact Or.inl (by rw [show j + 1 + i = j + (i + 1) by omega])
    · simp [lq] at h3
  | 1, o :: r, j, q, h => by
    have h2 : q ∈ lq G j (ki o :: some v :: none :: r.tail.tail) := h
    cases hk : ki o with
    | none =>
      rw [hk] at h2
      rcases List.mem_cons.mp (show q ∈ (j + 1, cv G v) :: lq G (j + 1 + 1 + 1) r.tail.tail from h2) with rfl | h3
      · exact Or.inl rfl
      · have h4 := lq_ge G _ _ _ h3
        refine Or.inr ⟨lq_tail G (L := o :: r) (lq_tail G (L := r) (lq_tail G (L := r.tail) h3)), by omega, by omega, by omega⟩
    | some w =>
      rw [hk] at h2
      obtain ⟨ho, hw⟩ := ki_cat hk
      subst ho
      rcases List.mem_cons.mp (show q ∈ (j, cv G w) :: (j + 1, cv G v) :: lq G (j + 1 + 1 + 1) r.tail.tail from h2) with rfl | h3
      · exact Or.inr ⟨List.mem_cons_self, by simp, by show j ≠ j + 1 + 1; omega, fun z => by have z2 := z.2; rw [cv_cat, hw] at z2; omega⟩
      · rcases List.mem_cons.mp h3 with rfl | h3
        · exact Or.inl rfl
        · have h4 := lq_ge G _ _ _ h3
          refine Or.inr ⟨lq_tail G (L := some w :: r) (lq_tail G (L := r) (lq_tail G (L := r.tail) h3)), by omega, by omega, by omega⟩
  | i + 2, o :: r, j, q, h => by
    have h2 : q ∈ lq G j (o :: st2 (i + 1) v r) := h
    have key : q ∈ lq G (j + 1) (st2 (i + 1) v r) → q = (j + (i + 2), cv G v) ∨ (q ∈ lq G j (o :: r) ∧ q.1 ≠ j + (i + 2) ∧ q.1 ≠ j + (i + 2) + 1 ∧ ¬ (q.1 + 1 = j + (i + 2) ∧ q.2.category = 2)) := by
      intro h3
      rcases lq_st2 G v (i + 1) r (j + 1) q h3 with rfl | ⟨a, b, b2, c⟩
      · exact Or.inl (by rw [show j + 1 + (i + 1) = j + (i + 2) by omega])
      · exact Or.inr ⟨lq_tail G (L := o :: r) a, by omega, by omega, by rw [show j + (i + 2) = j + 1 + (i + 1) by omega]; exact c⟩
    cases o with
    | none => exact key h2
    | some w =>
      rcases List.mem_cons.mp (show q ∈ (j, cv G w) :: lq G (j + 1) (st2 (i + 1) v r) from h2) with rfl | h3
      · exact Or.inr ⟨List.mem_cons_self, by simp, by show j ≠ j + (i + 2) + 1; omega, by simp⟩
      · exact key h3
theorem lh_st1 {G : gx} {ls : Array Slot} {nL i : Nat} {v : Value} {L : List (Option Value)} (h : lv_has ls nL ((i, cv G v) :: (lq G 0 L).filter (fun q => !(q.1 == i) && !(q.1 + 1 == i && q.2.category == 2)))) : lv_has ls nL (lq G 0 (st1 i v L)) := by
  refine ⟨h.1, h.2.1, fun q hq => h.2.2 q ?_⟩
  rcases lq_st1 G v i L 0 q hq with rfl | ⟨a, b, c⟩
  · rw [Nat.zero_add]; exact List.mem_cons_self
  · rw [Nat.zero_add] at b c
    refine List.mem_cons_of_mem _ (List.mem_filter.mpr ⟨a, ?_⟩)
    simp only [Bool.and_eq_true, Bool.not_eq_true', beq_eq_false_iff_ne, Bool.and_eq_false_iff, ne_eq]
    refine ⟨b, ?_⟩
    by_cases z : q.1 + 1 = i
    · exact Or.inr (fun z2 => c ⟨z, z2⟩)
    · exact Or.inl z
theorem lh_st2 {G : gx} {ls : Array Slot} {nL i : Nat} {v : Value} {L : List (Option Value)} (h : lv_has ls nL ((i, cv G v) :: (lq G 0 L).filter (fun q => !(q.1 == i) && (!(q.1 == i + 1) && !(q.1 + 1 == i && q.2.category == 2))))) : lv_has ls nL (lq G 0 (st2 i v L)) := by
  refine ⟨h.1, h.2.1, fun q hq => h.2.2 q ?_⟩
  rcases lq_st2 G v i L 0 q hq with rfl | ⟨a, b, b2, c⟩
  · rw [Nat.zero_add]; exact List.mem_cons_self
  · rw [Nat.zero_add] at b b2 c
    refine List.mem_cons_of_mem _ (List.mem_filter.mpr ⟨a, ?_⟩)
    simp only [Bool.and_eq_true, Bool.not_eq_true', beq_eq_false_iff_ne, Bool.and_eq_false_iff, ne_eq]
    refine ⟨b, b2, ?_⟩
    by_cases z : q.1 + 1 = i
    · exact Or.inr (fun z2 => c ⟨z, z2⟩)
    · exact Or.inl z
theorem lh_get {G : gx} {ls : Array Slot} {nL i : Nat} {v : Value} {L : List (Option Value)} (h : lv_has ls nL (lq G 0 L)) (hg : L[i]? = some (some v)) : ls[i]? = some (.val (cv G v)) := by
  have := h.2.2 _ (lq_get G L 0 i v hg)
  rw [Nat.zero_add] at this
  exact this
end
section
/-! THE ROWS of our judgement: one an instruction -/
theorem V_iconst {G : gx} {y : my} {b : bg} {pc : Nat} {L : List (Option Value)} {S : List Value} {h : ah} {Q : Option Value → ah → Prop} {n : Int} {v : Int32} (hd : decode y.2.1 pc = .ok (.iconst n, 1)) (hv : Int32.ofInt n = v) (k : V G y b (pc + 1) L (.int v :: S) h Q) : V G y b pc L S h Q := fun p e s m args below meth c H locs ls C c1 c2 hP hS hl => lv_iconst C.1 C.2.1 hd hv (k p e s m args below meth c H locs ls C c1 c2 hP hS hl)
theorem V_bipush {G : gx} {y : my} {b : bg} {pc : Nat} {L : List (Option Value)} {S : List Value} {h : ah} {Q : Option Value → ah → Prop} {n : Int} {v : Int32} (hd : decode y.2.1 pc = .ok (.bipush n, 2)) (hv : (Int8.ofInt n).toInt32 = v) (k : V G y b (pc + 2) L (.int v :: S) h Q) : V G y b pc L S h Q := fun p e s m args below meth c H locs ls C c1 c2 hP hS hl => lv_bipush C.1 C.2.1 hd hv (k p e s m args below meth c H locs ls C c1 c2 hP hS hl)
theorem V_sipush {G : gx} {y : my} {b : bg} {pc : Nat} {L : List (Option Value)} {S : List Value} {h : ah} {Q : Option Value → ah → Prop} {n : Int} {v : Int32} (hd : decode y.2.1 pc = .ok (.sipush n, 3)) (hv : (Int16.ofInt n).toInt32 = v) (k : V G y b (pc + 3) L (.int v :: S) h Q) : V G y b pc L S h Q := fun p e s m args below meth c H locs ls C c1 c2 hP hS hl => lv_sipush C.1 C.2.1 hd hv (k p e s m args below meth c H locs ls C c1 c2 hP hS hl)
theorem V_lconst {G : gx} {y : my} {b : bg} {pc : Nat} {L : List (Option Value)} {S : List Value} {h : ah} {Q : Option Value → ah → Prop} {n : Fin 2} {v : Int64} (hd : decode y.2.1 pc = .ok (.lconst n, 1)) (hv : Int64.ofNat (n : Nat) = v) (k : V G y b (pc + 1) L (.long v :: S) h Q) : V G y b pc L S h Q := fun p e s m args below meth c H locs ls C c1 c2 hP hS hl => lv_lconst C.1 C.2.1 hd hv (k p e s m args below meth c H locs ls C c1 c2 hP hS hl)
theorem V_iload_n {G : gx} {y : my} {b : bg} {pc : Nat} {L : List (Option Value)} {S : List Value} {h : ah} {Q : Option Value → ah → Prop} {j : Fin 4} {i : Nat} {x : Int32} (hd : decode y.2.1 pc = .ok (.iload_n j, 1)) (hi : (j : Nat) = i) (hg : L[i]? = some (some (.int x))) (k : V G y b (pc + 1) L (.int x :: S) h Q) : V G y b pc L S h Q := fun p e s m args below meth c H locs ls C c1 c2 hP hS hl => lv_iload_n C.1 C.2.1 hd hi (lh_get hl hg) (k p e s m args below meth c H locs ls C c1 c2 hP hS hl)
theorem V_iload {G : gx} {y : my} {b : bg} {pc : Nat} {L : List (Option Value)} {S : List Value} {h : ah} {Q : Option Value → ah → Prop} {i : Nat} {x : Int32} (hd : decode y.2.1 pc = .ok (.iload i, 2)) (hg : L[i]? = some (some (.int x))) (k : V G y b (pc + 2) L (.int x :: S) h Q) : V G y b pc L S h Q := fun p e s m args below meth c H locs ls C c1 c2 hP hS hl => lv_iload C.1 C.2.1 hd (lh_get hl hg) (k p e s m args below meth c H locs ls C c1 c2 hP hS hl)
theorem V_lload_n {G : gx} {y : my} {b : bg} {pc : Nat} {L : List (Option Value)} {S : List Value} {h : ah} {Q : Option Value → ah → Prop} {j : Fin 4} {i : Nat} {x : Int64} (hd : decode y.2.1 pc = .ok (.lload_n j, 1)) (hi : (j : Nat) = i) (hg : L[i]? = some (some (.long x))) (k : V G y b (pc + 1) L (.long x :: S) h Q) : V G y b pc L S h Q := fun p e s m args below meth c H locs ls C c1 c2 hP hS hl => lv_lload_n C.1 C.2.1 hd hi (lh_get hl hg) (k p e s m args below meth c H locs ls C c1 c2 hP hS hl)
theorem V_lload {G : gx} {y : my} {b : bg} {pc : Nat} {L : List (Option Value)} {S : List Value} {h : ah} {Q : Option Value → ah → Prop} {i : Nat} {x : Int64} (hd : decode y.2.1 pc = .ok (.lload i, 2)) (hg : L[i]? = some (some (.long x))) (k : V G y b (pc + 2) L (.long x :: S) h Q) : V G y b pc L S h Q := fun p e s m args below meth c H locs ls C c1 c2 hP hS hl => lv_lload C.1 C.2.1 hd (lh_get hl hg) (k p e s m args below meth c H locs ls C c1 c2 hP hS hl)
theorem V_aload_n {G : gx} {y : my} {b : bg} {pc : Nat} {L : List (Option Value)} {S : List Value} {h : ah} {Q : Option Value → ah → Prop} {j : Fin 4} {i x : Nat} (hd : decode y.2.1 pc = .ok (.aload_n j, 1)) (hi : (j : Nat) = i) (hg : L[i]? = some (some (.ref x))) (k : V G y b (pc + 1) L (.ref x :: S) h Q) : V G y b pc L S h Q := fun p e s m args below meth c H locs ls C c1 c2 hP hS hl => lv_aload_n C.1 C.2.1 hd hi (lh_get hl hg) (k p e s m args below meth c H locs ls C c1 c2 hP hS hl)
theorem V_aload {G : gx} {y : my} {b : bg} {pc : Nat} {L : List (Option Value)} {S : List Value} {h : ah} {Q : Option Value → ah → Prop} {i x : Nat} (hd : decode y.2.1 pc = .ok (.aload i, 2)) (hg : L[i]? = some (some (.ref x))) (k : V G y b (pc + 2) L (.ref x :: S) h Q) : V G y b pc L S h Q := fun p e s m args below meth c H locs ls C c1 c2 hP hS hl => lv_aload C.1 C.2.1 hd (lh_get hl hg) (k p e s m args below meth c H locs ls C c1 c2 hP hS hl)
theorem V_istore_n {G : gx} {y : my} {b : bg} {pc : Nat} {L : List (Option Value)} {S : List Value} {h : ah} {Q : Option Value → ah → Prop} {j : Fin 4} {i : Nat} {x : Int32} (hd : decode y.2.1 pc = .ok (.istore_n j, 1)) (hi : (j : Nat) = i) (hn : i < y.2.2.1) (k : V G y b (pc + 1) (st1 i (.int x) L) S h Q) : V G y b pc L (.int x :: S) h Q := fun p e s m args below meth c H locs ls C c1 c2 hP hS hl => lv_istore_n C.1 C.2.1 hd hi hl hn rfl (fun ls hl => k p e s m args below meth c H locs ls C c1 c2 hP hS (lh_st1 hl))
theorem V_istore {G : gx} {y : my} {b : bg} {pc : Nat} {L : List (Option Value)} {S : List Value} {h : ah} {Q : Option Value → ah → Prop} {i : Nat} {x : Int32} (hd : decode y.2.1 pc = .ok (.istore i, 2))  (hn : i < y.2.2.1) (k : V G y b (pc + 2) (st1 i (.int x) L) S h Q) : V G y b pc L (.int x :: S) h Q := fun p e s m args below meth c H locs ls C c1 c2 hP hS hl => lv_istore C.1 C.2.1 hd hl hn rfl (fun ls hl => k p e s m args below meth c H locs ls C c1 c2 hP hS (lh_st1 hl))
theorem V_lstore_n {G : gx} {y : my} {b : bg} {pc : Nat} {L : List (Option Value)} {S : List Value} {h : ah} {Q : Option Value → ah → Prop} {j : Fin 4} {i : Nat} {x : Int64} (hd : decode y.2.1 pc = .ok (.lstore_n j, 1)) (hi : (j : Nat) = i) (hn : i + 1 < y.2.2.1) (k : V G y b (pc + 1) (st2 i (.long x) L) S h Q) : V G y b pc L (.long x :: S) h Q := fun p e s m args below meth c H locs ls C c1 c2 hP hS hl => lv_lstore_n C.1 C.2.1 hd hi hl hn rfl (fun ls hl => k p e s m args below meth c H locs ls C c1 c2 hP hS (lh_st2 hl))
theorem V_lstore {G : gx} {y : my} {b : bg} {pc : Nat} {L : List (Option Value)} {S : List Value} {h : ah} {Q : Option Value → ah → Prop} {i : Nat} {x : Int64} (hd : decode y.2.1 pc = .ok (.lstore i, 2))  (hn : i + 1 < y.2.2.1) (k : V G y b (pc + 2) (st2 i (.long x) L) S h Q) : V G y b pc L (.long x :: S) h Q := fun p e s m args below meth c H locs ls C c1 c2 hP hS hl => lv_lstore C.1 C.2.1 hd hl hn rfl (fun ls hl => k p e s m args below meth c H locs ls C c1 c2 hP hS (lh_st2 hl))
theorem V_astore_n {G : gx} {y : my} {b : bg} {pc : Nat} {L : List (Option Value)} {S : List Value} {h : ah} {Q : Option Value → ah → Prop} {j : Fin 4} {i x : Nat} (hd : decode y.2.1 pc = .ok (.astore_n j, 1)) (hi : (j : Nat) = i) (hn : i < y.2.2.1) (k : V G y b (pc + 1) (st1 i (.ref x) L) S h Q) : V G y b pc L (.ref x :: S) h Q := fun p e s m args below meth c H locs ls C c1 c2 hP hS hl => lv_astore_n C.1 C.2.1 hd hi hl hn rfl (fun ls hl => k p e s m args below meth c H locs ls C c1 c2 hP hS (lh_st1 hl))
theorem V_astore {G : gx} {y : my} {b : bg} {pc : Nat} {L : List (Option Value)} {S : List Value} {h : ah} {Q : Option Value → ah → Prop} {i x : Nat} (hd : decode y.2.1 pc = .ok (.astore i, 2))  (hn : i < y.2.2.1) (k : V G y b (pc + 2) (st1 i (.ref x) L) S h Q) : V G y b pc L (.ref x :: S) h Q := fun p e s m args below meth c H locs ls C c1 c2 hP hS hl => lv_astore C.1 C.2.1 hd hl hn rfl (fun ls hl => k p e s m args below meth c H locs ls C c1 c2 hP hS (lh_st1 hl))
theorem lv_in {ls : Array Slot} {nL i : Nat} {v : Value} {l : List (Nat × Value)} (h : lv_has ls nL l) (hv : ls[i]? = some (.val v)) : lv_has ls nL ((i, v) :: l) := ⟨h.1, h.2.1, fun q hq => by
  rcases List.mem_cons.mp hq with rfl | hq
  · exact hv
  · exact h.2.2 q hq⟩
theorem lh_st1' {G : gx} {ls : Array Slot} {nL i : Nat} {v w : Value} {L : List (Option Value)} (h : lv_has ls nL ((i, cv G v) :: (((i, w) :: lq G 0 L).filter (fun q => !(q.1 == i) && !(q.1 + 1 == i && q.2.category == 2))))) : lv_has ls nL (lq G 0 (st1 i v L)) := by
  refine lh_st1 ⟨h.1, h.2.1, fun q hq => h.2.2 q ?_⟩
  rcases List.mem_cons.mp hq with rfl | hq
  · exact List.mem_cons_self
  · exact List.mem_cons_of_mem _ (List.mem_filter.mpr ⟨List.mem_cons_of_mem _ (List.mem_filter.mp hq).1, (List.mem_filter.mp hq).2⟩)
theorem V_iinc {G : gx} {y : my} {b : bg} {pc : Nat} {L : List (Option Value)} {S : List Value} {h : ah} {Q : Option Value → ah → Prop} {i : Nat} {n : Int} {x : Int32} (hd : decode y.2.1 pc = .ok (.iinc i n, 3)) (hg : L[i]? = some (some (.int x))) (hn : i < y.2.2.1) (k : V G y b (pc + 3) (st1 i (.int (x + Int32.ofInt n)) L) S h Q) : V G y b pc L S h Q := fun p e s m args below meth c H locs ls C c1 c2 hP hS hl => lv_iinc C.1 C.2.1 hd (lv_in hl (lh_get hl hg)) (k := 0) rfl rfl hn rfl (fun ls hl => k p e s m args below meth c H locs ls C c1 c2 hP hS (lh_st1' hl))
theorem V_iadd {G : gx} {y : my} {b : bg} {pc : Nat} {L : List (Option Value)} {S : List Value} {h : ah} {Q : Option Value → ah → Prop} {x z : Int32} (hd : decode y.2.1 pc = .ok (.iadd, 1))  (k : V G y b (pc + 1) L (.int (x + z) :: S) h Q) : V G y b pc L (.int z :: .int x :: S) h Q := fun p e s m args below meth c H locs ls C c1 c2 hP hS hl => lv_iadd C.1 C.2.1 hd  (k p e s m args below meth c H locs ls C c1 c2 hP hS hl)
theorem V_isub {G : gx} {y : my} {b : bg} {pc : Nat} {L : List (Option Value)} {S : List Value} {h : ah} {Q : Option Value → ah → Prop} {x z : Int32} (hd : decode y.2.1 pc = .ok (.isub, 1))  (k : V G y b (pc + 1) L (.int (x - z) :: S) h Q) : V G y b pc L (.int z :: .int x :: S) h Q := fun p e s m args below meth c H locs ls C c1 c2 hP hS hl => lv_isub C.1 C.2.1 hd  (k p e s m args below meth c H locs ls C c1 c2 hP hS hl)
theorem V_imul {G : gx} {y : my} {b : bg} {pc : Nat} {L : List (Option Value)} {S : List Value} {h : ah} {Q : Option Value → ah → Prop} {x z : Int32} (hd : decode y.2.1 pc = .ok (.imul, 1))  (k : V G y b (pc + 1) L (.int (x * z) :: S) h Q) : V G y b pc L (.int z :: .int x :: S) h Q := fun p e s m args below meth c H locs ls C c1 c2 hP hS hl => lv_imul C.1 C.2.1 hd  (k p e s m args below meth c H locs ls C c1 c2 hP hS hl)
theorem V_iand {G : gx} {y : my} {b : bg} {pc : Nat} {L : List (Option Value)} {S : List Value} {h : ah} {Q : Option Value → ah → Prop} {x z : Int32} (hd : decode y.2.1 pc = .ok (.iand, 1))  (k : V G y b (pc + 1) L (.int (x &&& z) :: S) h Q) : V G y b pc L (.int z :: .int x :: S) h Q := fun p e s m args below meth c H locs ls C c1 c2 hP hS hl => lv_iand C.1 C.2.1 hd  (k p e s m args below meth c H locs ls C c1 c2 hP hS hl)
theorem V_ior {G : gx} {y : my} {b : bg} {pc : Nat} {L : List (Option Value)} {S : List Value} {h : ah} {Q : Option Value → ah → Prop} {x z : Int32} (hd : decode y.2.1 pc = .ok (.ior, 1))  (k : V G y b (pc + 1) L (.int (x ||| z) :: S) h Q) : V G y b pc L (.int z :: .int x :: S) h Q := fun p e s m args below meth c H locs ls C c1 c2 hP hS hl => lv_ior C.1 C.2.1 hd  (k p e s m args below meth c H locs ls C c1 c2 hP hS hl)
theorem V_idiv {G : gx} {y : my} {b : bg} {pc : Nat} {L : List (Option Value)} {S : List Value} {h : ah} {Q : Option Value → ah → Prop} {x z : Int32} (hd : decode y.2.1 pc = .ok (.idiv, 1)) (hz : ¬ z = 0) (k : V G y b (pc + 1) L (.int (x / z) :: S) h Q) : V G y b pc L (.int z :: .int x :: S) h Q := fun p e s m args below meth c H locs ls C c1 c2 hP hS hl => lv_idiv C.1 C.2.1 hd hz (k p e s m args below meth c H locs ls C c1 c2 hP hS hl)
theorem V_irem {G : gx} {y : my} {b : bg} {pc : Nat} {L : List (Option Value)} {S : List Value} {h : ah} {Q : Option Value → ah → Prop} {x z : Int32} (hd : decode y.2.1 pc = .ok (.irem, 1)) (hz : ¬ z = 0) (k : V G y b (pc + 1) L (.int (x - x / z * z) :: S) h Q) : V G y b pc L (.int z :: .int x :: S) h Q := fun p e s m args below meth c H locs ls C c1 c2 hP hS hl => lv_irem C.1 C.2.1 hd hz (k p e s m args below meth c H locs ls C c1 c2 hP hS hl)
theorem V_ladd {G : gx} {y : my} {b : bg} {pc : Nat} {L : List (Option Value)} {S : List Value} {h : ah} {Q : Option Value → ah → Prop} {x z : Int64} (hd : decode y.2.1 pc = .ok (.ladd, 1))  (k : V G y b (pc + 1) L (.long (x + z) :: S) h Q) : V G y b pc L (.long z :: .long x :: S) h Q := fun p e s m args below meth c H locs ls C c1 c2 hP hS hl => lv_ladd C.1 C.2.1 hd  (k p e s m args below meth c H locs ls C c1 c2 hP hS hl)
theorem V_lsub {G : gx} {y : my} {b : bg} {pc : Nat} {L : List (Option Value)} {S : List Value} {h : ah} {Q : Option Value → ah → Prop} {x z : Int64} (hd : decode y.2.1 pc = .ok (.lsub, 1))  (k : V G y b (pc + 1) L (.long (x - z) :: S) h Q) : V G y b pc L (.long z :: .long x :: S) h Q := fun p e s m args below meth c H locs ls C c1 c2 hP hS hl => lv_lsub C.1 C.2.1 hd  (k p e s m args below meth c H locs ls C c1 c2 hP hS hl)
theorem V_lmul {G : gx} {y : my} {b : bg} {pc : Nat} {L : List (Option Value)} {S : List Value} {h : ah} {Q : Option Value → ah → Prop} {x z : Int64} (hd : decode y.2.1 pc = .ok (.lmul, 1))  (k : V G y b (pc + 1) L (.long (x * z) :: S) h Q) : V G y b pc L (.long z :: .long x :: S) h Q := fun p e s m args below meth c H locs ls C c1 c2 hP hS hl => lv_lmul C.1 C.2.1 hd  (k p e s m args below meth c H locs ls C c1 c2 hP hS hl)
theorem V_land {G : gx} {y : my} {b : bg} {pc : Nat} {L : List (Option Value)} {S : List Value} {h : ah} {Q : Option Value → ah → Prop} {x z : Int64} (hd : decode y.2.1 pc = .ok (.land, 1))  (k : V G y b (pc + 1) L (.long (x &&& z) :: S) h Q) : V G y b pc L (.long z :: .long x :: S) h Q := fun p e s m args below meth c H locs ls C c1 c2 hP hS hl => lv_land C.1 C.2.1 hd  (k p e s m args below meth c H locs ls C c1 c2 hP hS hl)
theorem V_lor {G : gx} {y : my} {b : bg} {pc : Nat} {L : List (Option Value)} {S : List Value} {h : ah} {Q : Option Value → ah → Prop} {x z : Int64} (hd : decode y.2.1 pc = .ok (.lor, 1))  (k : V G y b (pc + 1) L (.long (x ||| z) :: S) h Q) : V G y b pc L (.long z :: .long x :: S) h Q := fun p e s m args below meth c H locs ls C c1 c2 hP hS hl => lv_lor C.1 C.2.1 hd  (k p e s m args below meth c H locs ls C c1 c2 hP hS hl)
theorem V_ldiv {G : gx} {y : my} {b : bg} {pc : Nat} {L : List (Option Value)} {S : List Value} {h : ah} {Q : Option Value → ah → Prop} {x z : Int64} (hd : decode y.2.1 pc = .ok (.ldiv, 1)) (hz : ¬ z = 0) (k : V G y b (pc + 1) L (.long (x / z) :: S) h Q) : V G y b pc L (.long z :: .long x :: S) h Q := fun p e s m args below meth c H locs ls C c1 c2 hP hS hl => lv_ldiv C.1 C.2.1 hd hz (k p e s m args below meth c H locs ls C c1 c2 hP hS hl)
theorem V_i2l {G : gx} {y : my} {b : bg} {pc : Nat} {L : List (Option Value)} {S : List Value} {h : ah} {Q : Option Value → ah → Prop} {x : Int32} (hd : decode y.2.1 pc = .ok (.i2l, 1))  (k : V G y b (pc + 1) L (.long x.toInt64 :: S) h Q) : V G y b pc L (.int x :: S) h Q := fun p e s m args below meth c H locs ls C c1 c2 hP hS hl => lv_i2l C.1 C.2.1 hd rfl (k p e s m args below meth c H locs ls C c1 c2 hP hS hl)
theorem V_l2i {G : gx} {y : my} {b : bg} {pc : Nat} {L : List (Option Value)} {S : List Value} {h : ah} {Q : Option Value → ah → Prop} {x : Int64} (hd : decode y.2.1 pc = .ok (.l2i, 1))  (k : V G y b (pc + 1) L (.int x.toInt32 :: S) h Q) : V G y b pc L (.long x :: S) h Q := fun p e s m args below meth c H locs ls C c1 c2 hP hS hl => lv_l2i C.1 C.2.1 hd rfl (k p e s m args below meth c H locs ls C c1 c2 hP hS hl)
theorem V_i2b {G : gx} {y : my} {b : bg} {pc : Nat} {L : List (Option Value)} {S : List Value} {h : ah} {Q : Option Value → ah → Prop} {x : Int32} (hd : decode y.2.1 pc = .ok (.i2b, 1))  (k : V G y b (pc + 1) L (.int x.toInt8.toInt32 :: S) h Q) : V G y b pc L (.int x :: S) h Q := fun p e s m args below meth c H locs ls C c1 c2 hP hS hl => lv_i2b C.1 C.2.1 hd rfl (k p e s m args below meth c H locs ls C c1 c2 hP hS hl)
theorem V_i2s {G : gx} {y : my} {b : bg} {pc : Nat} {L : List (Option Value)} {S : List Value} {h : ah} {Q : Option Value → ah → Prop} {x : Int32} (hd : decode y.2.1 pc = .ok (.i2s, 1))  (k : V G y b (pc + 1) L (.int x.toInt16.toInt32 :: S) h Q) : V G y b pc L (.int x :: S) h Q := fun p e s m args below meth c H locs ls C c1 c2 hP hS hl => lv_i2s C.1 C.2.1 hd rfl (k p e s m args below meth c H locs ls C c1 c2 hP hS hl)
theorem V_i2c {G : gx} {y : my} {b : bg} {pc : Nat} {L : List (Option Value)} {S : List Value} {h : ah} {Q : Option Value → ah → Prop} {x : Int32} (hd : decode y.2.1 pc = .ok (.i2c, 1))  (k : V G y b (pc + 1) L (.int (x.toUInt32 % 65536).toInt32 :: S) h Q) : V G y b pc L (.int x :: S) h Q := fun p e s m args below meth c H locs ls C c1 c2 hP hS hl => lv_i2c C.1 C.2.1 hd rfl (k p e s m args below meth c H locs ls C c1 c2 hP hS hl)
theorem V_lushr {G : gx} {y : my} {b : bg} {pc : Nat} {L : List (Option Value)} {S : List Value} {h : ah} {Q : Option Value → ah → Prop} {x : Int64} {z : Int32} (hd : decode y.2.1 pc = .ok (.lushr, 1))  (k : V G y b (pc + 1) L (.long (x.toUInt64 >>> (z.toInt64.toUInt64 &&& Int64.toUInt64 63)).toInt64 :: S) h Q) : V G y b pc L (.int z :: .long x :: S) h Q := fun p e s m args below meth c H locs ls C c1 c2 hP hS hl => lv_lushr C.1 C.2.1 hd rfl (k p e s m args below meth c H locs ls C c1 c2 hP hS hl)
theorem V_lshl {G : gx} {y : my} {b : bg} {pc : Nat} {L : List (Option Value)} {S : List Value} {h : ah} {Q : Option Value → ah → Prop} {x : Int64} {z : Int32} (hd : decode y.2.1 pc = .ok (.lshl, 1))  (k : V G y b (pc + 1) L (.long (x <<< (z.toInt64 &&& 63)) :: S) h Q) : V G y b pc L (.int z :: .long x :: S) h Q := fun p e s m args below meth c H locs ls C c1 c2 hP hS hl => lv_lshl C.1 C.2.1 hd rfl (k p e s m args below meth c H locs ls C c1 c2 hP hS hl)
theorem V_dup {G : gx} {y : my} {b : bg} {pc : Nat} {L : List (Option Value)} {S : List Value} {h : ah} {Q : Option Value → ah → Prop} {v : Value} (hd : decode y.2.1 pc = .ok (.dup, 1)) (hv : v.category = 1) (k : V G y b (pc + 1) L (v :: v :: S) h Q) : V G y b pc L (v :: S) h Q := fun p e s m args below meth c H locs ls C c1 c2 hP hS hl => lv_dup C.1 C.2.1 hd ((cv_cat G v).trans hv) (k p e s m args below meth c H locs ls C c1 c2 hP hS hl)
theorem V_pop {G : gx} {y : my} {b : bg} {pc : Nat} {L : List (Option Value)} {S : List Value} {h : ah} {Q : Option Value → ah → Prop} {v : Value} (hd : decode y.2.1 pc = .ok (.pop, 1)) (hv : v.category = 1) (k : V G y b (pc + 1) L (S) h Q) : V G y b pc L (v :: S) h Q := fun p e s m args below meth c H locs ls C c1 c2 hP hS hl => lv_pop C.1 C.2.1 hd ((cv_cat G v).trans hv) (k p e s m args below meth c H locs ls C c1 c2 hP hS hl)
theorem V_dup2 {G : gx} {y : my} {b : bg} {pc : Nat} {L : List (Option Value)} {S : List Value} {h : ah} {Q : Option Value → ah → Prop} {v w : Value} (hd : decode y.2.1 pc = .ok (.dup2, 1)) (hv : v.category = 1) (hw : w.category = 1) (k : V G y b (pc + 1) L (v :: w :: v :: w :: S) h Q) : V G y b pc L (v :: w :: S) h Q := fun p e s m args below meth c H locs ls C c1 c2 hP hS hl => lv_dup2_11 C.1 C.2.1 hd ((cv_cat G v).trans hv) ((cv_cat G w).trans hw) (k p e s m args below meth c H locs ls C c1 c2 hP hS hl)
theorem V_lcmp {G : gx} {y : my} {b : bg} {pc : Nat} {L : List (Option Value)} {S : List Value} {h : ah} {Q : Option Value → ah → Prop} {x z : Int64} (hd : decode y.2.1 pc = .ok (.lcmp, 1)) (k : V G y b (pc + 1) L (.int (lg_cmp x z) :: S) h Q) : V G y b pc L (.long z :: .long x :: S) h Q := fun p e s m args below meth c H locs ls C c1 c2 hP hS hl => W.lcmp C.1 C.2.1 hd (k p e s m args below meth c H locs ls C c1 c2 hP hS hl)
-- eq
theorem V_if_eq {G : gx} {y : my} {b : bg} {pc : Nat} {L : List (Option Value)} {S : List Value} {h : ah} {Q : Option Value → ah → Prop} {x : Int32} {off : Int} {t : Nat} (hd : decode y.2.1 pc = .ok (.ifCond .eq off, 3)) (ht : (pc : Int) + off = (t : Int)) (k1 : x = 0 → V G y b t L S h Q) (k2 : ¬ (x = 0) → V G y b (pc + 3) L S h Q) : V G y b pc L (.int x :: S) h Q := fun p e s m args below meth c H locs ls C c1 c2 hP hS hl => lv_if_eq C.1 C.2.1 hd ht (fun z => k1 z p e s m args below meth c H locs ls C c1 c2 hP hS hl) (fun z => k2 z p e s m args below meth c H locs ls C c1 c2 hP hS hl)
theorem V_icmp_eq {G : gx} {y : my} {b : bg} {pc : Nat} {L : List (Option Value)} {S : List Value} {h : ah} {Q : Option Value → ah → Prop} {x z : Int32} {off : Int} {t : Nat} (hd : decode y.2.1 pc = .ok (.if_icmp .eq off, 3)) (ht : (pc : Int) + off = (t : Int)) (k1 : x = z → V G y b t L S h Q) (k2 : ¬ (x = z) → V G y b (pc + 3) L S h Q) : V G y b pc L (.int z :: .int x :: S) h Q := fun p e s m args below meth c H locs ls C c1 c2 hP hS hl => lv_icmp_eq C.1 C.2.1 hd ht (fun z => k1 z p e s m args below meth c H locs ls C c1 c2 hP hS hl) (fun z => k2 z p e s m args below meth c H locs ls C c1 c2 hP hS hl)
-- ne
theorem V_if_ne {G : gx} {y : my} {b : bg} {pc : Nat} {L : List (Option Value)} {S : List Value} {h : ah} {Q : Option Value → ah → Prop} {x : Int32} {off : Int} {t : Nat} (hd : decode y.2.1 pc = .ok (.ifCond .ne off, 3)) (ht : (pc : Int) + off = (t : Int)) (k1 : ¬ x = 0 → V G y b t L S h Q) (k2 : x = 0 → V G y b (pc + 3) L S h Q) : V G y b pc L (.int x :: S) h Q := fun p e s m args below meth c H locs ls C c1 c2 hP hS hl => lv_if_ne C.1 C.2.1 hd ht (fun z => k1 z p e s m args below meth c H locs ls C c1 c2 hP hS hl) (fun z => k2 z p e s m args below meth c H locs ls C c1 c2 hP hS hl)
theorem V_icmp_ne {G : gx} {y : my} {b : bg} {pc : Nat} {L : List (Option Value)} {S : List Value} {h : ah} {Q : Option Value → ah → Prop} {x z : Int32} {off : Int} {t : Nat} (hd : decode y.2.1 pc = .ok (.if_icmp .ne off, 3)) (ht : (pc : Int) + off = (t : Int)) (k1 : ¬ x = z → V G y b t L S h Q) (k2 : x = z → V G y b (pc + 3) L S h Q) : V G y b pc L (.int z :: .int x :: S) h Q := fun p e s m args below meth c H locs ls C c1 c2 hP hS hl => lv_icmp_ne C.1 C.2.1 hd ht (fun z => k1 z p e s m args below meth c H locs ls C c1 c2 hP hS hl) (fun z => k2 z p e s m args below meth c H locs ls C c1 c2 hP hS hl)
-- lt
theorem V_if_lt {G : gx} {y : my} {b : bg} {pc : Nat} {L : List (Option Value)} {S : List Value} {h : ah} {Q : Option Value → ah → Prop} {x : Int32} {off : Int} {t : Nat} (hd : decode y.2.1 pc = .ok (.ifCond .lt off, 3)) (ht : (pc : Int) + off = (t : Int)) (k1 : x < 0 → V G y b t L S h Q) (k2 : ¬ (x < 0) → V G y b (pc + 3) L S h Q) : V G y b pc L (.int x :: S) h Q := fun p e s m args below meth c H locs ls C c1 c2 hP hS hl => lv_if_lt C.1 C.2.1 hd ht (fun z => k1 z p e s m args below meth c H locs ls C c1 c2 hP hS hl) (fun z => k2 z p e s m args below meth c H locs ls C c1 c2 hP hS hl)
theorem V_icmp_lt {G : gx} {y : my} {b : bg} {pc : Nat} {L : List (Option Value)} {S : List Value} {h : ah} {Q : Option Value → ah → Prop} {x z : Int32} {off : Int} {t : Nat} (hd : decode y.2.1 pc = .ok (.if_icmp .lt off, 3)) (ht : (pc : Int) + off = (t : Int)) (k1 : x < z → V G y b t L S h Q) (k2 : ¬ (x < z) → V G y b (pc + 3) L S h Q) : V G y b pc L (.int z :: .int x :: S) h Q := fun p e s m args below meth c H locs ls C c1 c2 hP hS hl => lv_icmp_lt C.1 C.2.1 hd ht (fun z => k1 z p e s m args below meth c H locs ls C c1 c2 hP hS hl) (fun z => k2 z p e s m args below meth c H locs ls C c1 c2 hP hS hl)
-- ge
theorem V_if_ge {G : gx} {y : my} {b : bg} {pc : Nat} {L : List (Option Value)} {S : List Value} {h : ah} {Q : Option Value → ah → Prop} {x : Int32} {off : Int} {t : Nat} (hd : decode y.2.1 pc = .ok (.ifCond .ge off, 3)) (ht : (pc : Int) + off = (t : Int)) (k1 : 0 ≤ x → V G y b t L S h Q) (k2 : ¬ (0 ≤ x) → V G y b (pc + 3) L S h Q) : V G y b pc L (.int x :: S) h Q := fun p e s m args below meth c H locs ls C c1 c2 hP hS hl => lv_if_ge C.1 C.2.1 hd ht (fun z => k1 z p e s m args below meth c H locs ls C c1 c2 hP hS hl) (fun z => k2 z p e s m args below meth c H locs ls C c1 c2 hP hS hl)
theorem V_icmp_ge {G : gx} {y : my} {b : bg} {pc : Nat} {L : List (Option Value)} {S : List Value} {h : ah} {Q : Option Value → ah → Prop} {x z : Int32} {off : Int} {t : Nat} (hd : decode y.2.1 pc = .ok (.if_icmp .ge off, 3)) (ht : (pc : Int) + off = (t : Int)) (k1 : z ≤ x → V G y b t L S h Q) (k2 : ¬ (z ≤ x) → V G y b (pc + 3) L S h Q) : V G y b pc L (.int z :: .int x :: S) h Q := fun p e s m args below meth c H locs ls C c1 c2 hP hS hl => lv_icmp_ge C.1 C.2.1 hd ht (fun z => k1 z p e s m args below meth c H locs ls C c1 c2 hP hS hl) (fun z => k2 z p e s m args below meth c H locs ls C c1 c2 hP hS hl)
-- gt
theorem V_if_gt {G : gx} {y : my} {b : bg} {pc : Nat} {L : List (Option Value)} {S : List Value} {h : ah} {Q : Option Value → ah → Prop} {x : Int32} {off : Int} {t : Nat} (hd : decode y.2.1 pc = .ok (.ifCond .gt off, 3)) (ht : (pc : Int) + off = (t : Int)) (k1 : 0 < x → V G y b t L S h Q) (k2 : ¬ (0 < x) → V G y b (pc + 3) L S h Q) : V G y b pc L (.int x :: S) h Q := fun p e s m args below meth c H locs ls C c1 c2 hP hS hl => lv_if_gt C.1 C.2.1 hd ht (fun z => k1 z p e s m args below meth c H locs ls C c1 c2 hP hS hl) (fun z => k2 z p e s m args below meth c H locs ls C c1 c2 hP hS hl)
theorem V_icmp_gt {G : gx} {y : my} {b : bg} {pc : Nat} {L : List (Option Value)} {S : List Value} {h : ah} {Q : Option Value → ah → Prop} {x z : Int32} {off : Int} {t : Nat} (hd : decode y.2.1 pc = .ok (.if_icmp .gt off, 3)) (ht : (pc : Int) + off = (t : Int)) (k1 : z < x → V G y b t L S h Q) (k2 : ¬ (z < x) → V G y b (pc + 3) L S h Q) : V G y b pc L (.int z :: .int x :: S) h Q := fun p e s m args below meth c H locs ls C c1 c2 hP hS hl => lv_icmp_gt C.1 C.2.1 hd ht (fun z => k1 z p e s m args below meth c H locs ls C c1 c2 hP hS hl) (fun z => k2 z p e s m args below meth c H locs ls C c1 c2 hP hS hl)
-- le
theorem V_if_le {G : gx} {y : my} {b : bg} {pc : Nat} {L : List (Option Value)} {S : List Value} {h : ah} {Q : Option Value → ah → Prop} {x : Int32} {off : Int} {t : Nat} (hd : decode y.2.1 pc = .ok (.ifCond .le off, 3)) (ht : (pc : Int) + off = (t : Int)) (k1 : x ≤ 0 → V G y b t L S h Q) (k2 : ¬ (x ≤ 0) → V G y b (pc + 3) L S h Q) : V G y b pc L (.int x :: S) h Q := fun p e s m args below meth c H locs ls C c1 c2 hP hS hl => lv_if_le C.1 C.2.1 hd ht (fun z => k1 z p e s m args below meth c H locs ls C c1 c2 hP hS hl) (fun z => k2 z p e s m args below meth c H locs ls C c1 c2 hP hS hl)
theorem V_icmp_le {G : gx} {y : my} {b : bg} {pc : Nat} {L : List (Option Value)} {S : List Value} {h : ah} {Q : Option Value → ah → Prop} {x z : Int32} {off : Int} {t : Nat} (hd : decode y.2.1 pc = .ok (.if_icmp .le off, 3)) (ht : (pc : Int) + off = (t : Int)) (k1 : x ≤ z → V G y b t L S h Q) (k2 : ¬ (x ≤ z) → V G y b (pc + 3) L S h Q) : V G y b pc L (.int z :: .int x :: S) h Q := fun p e s m args below meth c H locs ls C c1 c2 hP hS hl => lv_icmp_le C.1 C.2.1 hd ht (fun z => k1 z p e s m args below meth c H locs ls C c1 c2 hP hS hl) (fun z => k2 z p e s m args below meth c H locs ls C c1 c2 hP hS hl)
theorem V_goto {G : gx} {y : my} {b : bg} {pc : Nat} {L : List (Option Value)} {S : List Value} {h : ah} {Q : Option Value → ah → Prop} {off : Int} {t : Nat} (hd : decode y.2.1 pc = .ok (.goto off, 3)) (ht : (pc : Int) + off = (t : Int)) (k : V G y b t L S h Q) : V G y b pc L S h Q := fun p e s m args below meth c H locs ls C c1 c2 hP hS hl => lv_goto C.1 C.2.1 hd ht (k p e s m args below meth c H locs ls C c1 c2 hP hS hl)
theorem V_tabOut {G : gx} {y : my} {b : bg} {pc : Nat} {L : List (Option Value)} {S : List Value} {h : ah} {Q : Option Value → ah → Prop} {x : Int32} {dflt lo hi : Int} {offs : Array Int} {len t : Nat} (hd : decode y.2.1 pc = .ok (.tableswitch dflt lo hi offs, len)) (hz : x.toInt < lo ∨ hi < x.toInt) (ht : (pc : Int) + dflt = (t : Int)) (k : V G y b t L S h Q) : V G y b pc L (.int x :: S) h Q := fun p e s m args below meth c H locs ls C c1 c2 hP hS hl => lv_tableOut C.1 C.2.1 hd hz ht (k p e s m args below meth c H locs ls C c1 c2 hP hS hl)
theorem V_tabIn {G : gx} {y : my} {b : bg} {pc : Nat} {L : List (Option Value)} {S : List Value} {h : ah} {Q : Option Value → ah → Prop} {x : Int32} {dflt lo hi off : Int} {offs : Array Int} {len t : Nat} (hd : decode y.2.1 pc = .ok (.tableswitch dflt lo hi offs, len)) (h1 : ¬ x.toInt < lo) (h2 : ¬ hi < x.toInt) (ho : offs[(x.toInt - lo).toNat]? = some off) (ht : (pc : Int) + off = (t : Int)) (k : V G y b t L S h Q) : V G y b pc L (.int x :: S) h Q := fun p e s m args below meth c H locs ls C c1 c2 hP hS hl => lv_tableIn C.1 C.2.1 hd h1 h2 ho ht (k p e s m args below meth c H locs ls C c1 c2 hP hS hl)
theorem V_look {G : gx} {y : my} {b : bg} {pc : Nat} {L : List (Option Value)} {S : List Value} {h : ah} {Q : Option Value → ah → Prop} {x : Int32} {dflt off : Int} {ps : Array (Int × Int)} {len t : Nat} (hd : decode y.2.1 pc = .ok (.lookupswitch dflt ps, len)) (hp : (ps.toList.zip (ps.toList.drop 1)).all (fun (a, next) => a.1 < next.1) = true) (ho : Op.lookupswitch.offset ps.toList dflt x.toInt = off) (ht : (pc : Int) + off = (t : Int)) (k : V G y b t L S h Q) : V G y b pc L (.int x :: S) h Q := fun p e s m args below meth c H locs ls C c1 c2 hP hS hl => lv_lookup C.1 C.2.1 hd hp ho ht (k p e s m args below meth c H locs ls C c1 c2 hP hS hl)
theorem V_ldc {G : gx} {y : my} {b : bg} {pc : Nat} {L : List (Option Value)} {S : List Value} {h : ah} {Q : Option Value → ah → Prop} {index : Nat} {v : Int32} (hd : decode y.2.1 pc = .ok (.ldc index, 2)) (hw : Cond.constant y.1.cls index v ∈ gw) (k : V G y b (pc + 2) L (.int v :: S) h Q) : V G y b pc L S h Q := fun p e s m args below meth c H locs ls C c1 c2 hP hS hl => lv_ldc C.1 C.2.1 C.2.2.2.2.1 (C.2.2.2.2.2.1 _ (List.mem_cons_of_mem _ hw)) hd (k p e s m args below meth c H locs ls C c1 c2 hP hS hl)
theorem V_ldc2 {G : gx} {y : my} {b : bg} {pc : Nat} {L : List (Option Value)} {S : List Value} {h : ah} {Q : Option Value → ah → Prop} {index : Nat} {v : Int64} (hd : decode y.2.1 pc = .ok (.ldc2_w index, 3)) (hw : Cond.constantLong y.1.cls index v ∈ gw) (k : V G y b (pc + 3) L (.long v :: S) h Q) : V G y b pc L S h Q := fun p e s m args below meth c H locs ls C c1 c2 hP hS hl => lv_ldc2 C.1 C.2.1 C.2.2.2.2.1 (C.2.2.2.2.2.1 _ (List.mem_cons_of_mem _ hw)) hd (k p e s m args below meth c H locs ls C c1 c2 hP hS hl)
end
section
/-! the heap's rows -/
theorem wl_get (G : gx) (h : ah) {k : Nat} (hk : k < (h 0).1) : (wl G h)[k]? = some (g_b G + k, cx G (h (k + 2))) := by
  unfold wl
  rw [List.getElem?_map, List.getElem?_range hk]
  rfl
theorem wl_inv {G : gx} {h : ah} {k : Nat} {q : Nat × va_E} (hk : (wl G h)[k]? = some q) : k < (h 0).1 ∧ q = (g_b G + k, cx G (h (k + 2))) := by
  have hl : k < (wl G h).length := (List.getElem?_eq_some_iff.mp hk).1
  have hl2 : k < (h 0).1 := by simpa [wl] using hl
  exact ⟨hl2, Option.some.inj (hk.symm.trans (wl_get G h hl2))⟩
theorem wl_D (G : gx) (h : ah) : va_D (g_A G) (wl G h) := by
  refine ⟨fun i j p q hp hq hpq => ?_, fun k q hk => ?_⟩
  · rw [(wl_inv hp).2, (wl_inv hq).2] at hpq
    have : g_b G + i = g_b G + j := hpq
    omega
  · rw [(wl_inv hk).2]
    exact Nat.le_add_right _ _
theorem up_0 (h : ah) (k : Nat) (e : ce) : va_up h (k + 2) e 0 = h 0 := by
  unfold va_up
  rw [if_neg (by omega)]
theorem up_s (h : ah) (k : Nat) (e : ce) : va_up h k e k = e := by simp [va_up]
theorem up_n (h : ah) {k j : Nat} (e : ce) (hn : j ≠ k) : va_up h k e j = h j := by simp [va_up, hn]
theorem wl_set (G : gx) (h : ah) {k : Nat} (e : ce) (hk : k < (h 0).1) : (wl G h).set k (g_b G + k, cx G e) = wl G (va_up h (k + 2) e) := by
  apply List.ext_getElem?
  intro i
  by_cases hi : i < (h 0).1
  · rw [wl_get G (va_up h (k + 2) e) (by rw [up_0]; exact hi)]
    by_cases hik : k = i
    · subst hik
      rw [List.getElem?_set_self (by simpa [wl] using hk), up_s]
    · rw [List.getElem?_set_ne hik, wl_get G h hi, up_n h e (by omega)]
  · rw [List.getElem?_eq_none (by simp [wl]; omega), List.getElem?_eq_none (by simp [wl, up_0]; omega)]
theorem Hp.lt {G : gx} {h : ah} {H : Heap} (hP : Hp G h H) {k : Nat} {e : ce} (hc : h (k + 2) = e) (he : e.1 < 100) : k < (h 0).1 := hP.2.1 k (by rw [hc]; exact he)
theorem Hp.el {G : gx} {h : ah} {H : Heap} (hP : Hp G h H) {k : Nat} {e : ce} (hc : h (k + 2) = e) (he : e.1 < 100) : (wl G h)[k]? = some (g_b G + k, cx G e) := by
  rw [wl_get G h (hP.lt hc he), hc]
theorem Hp.at {G : gx} {h : ah} {H : Heap} (hP : Hp G h H) {k : Nat} {e : ce} (hc : h (k + 2) = e) (he : e.1 < 100) : va_at (g_D G) vwCl (g_b G + k, cx G e) H := hP.1 k _ (hP.el hc he)
theorem Hp.set {G : gx} {h : ah} {H H1 : Heap} (hP : Hp G h H) {k : Nat} {e0 e : ce} (hc : h (k + 2) = e0) (h0 : e0.1 < 100) (he : va_at (g_D G) vwCl (g_b G + k, cx G e) H1) (z : H1.size = H.size) (oq : ∀ q : Nat, q ≠ g_b G + k → H1[q]? = H[q]?) : Hp G (va_up h (k + 2) e) H1 := by
  have hk := hP.lt hc h0
  refine ⟨?_, fun j hj => ?_, by rw [up_0, z]; exact hP.2.2⟩
  · rw [← wl_set G h e hk]
    exact hP.1.set (wl_D G h) (wl_get G h hk) he oq
  · rw [up_0]
    by_cases hjk : j = k
    · rw [hjk]; exact hk
    · rw [up_n h e (by omega)] at hj
      exact hP.2.1 j hj
theorem Cx.ex {G : gx} {y : my} {p : Program} {s : State} {m : MethodId} {args : Array Value} {meth : Method} {c : Code} (C : Cx G y p s m args meth c) : p.tables.exec = Jvm.exec := C.1
theorem Cx.own {G : gx} {y : my} {p : Program} {s : State} {m : MethodId} {args : Array Value} {meth : Method} {c : Code} (C : Cx G y p s m args meth c) : s.vm.findClass y.1.cls = some m.cls := C.2.2.2.2.1
theorem Cx.ts {G : gx} {y : my} {p : Program} {s : State} {m : MethodId} {args : Array Value} {meth : Method} {c : Code} (C : Cx G y p s m args meth c) {w : Cond} (hw : w ∈ gw) : w.before args s = true := C.2.2.2.2.2.1 _ (List.mem_cons_of_mem _ hw)
theorem Cx.kt {G : gx} {y : my} {p : Program} {s : State} {m : MethodId} {args : Array Value} {meth : Method} {c : Code} (C : Cx G y p s m args meth c) : Kt G s := C.2.2.2.2.2.2.2.2.1
theorem Cx.ro {G : gx} {y : my} {p : Program} {s : State} {m : MethodId} {args : Array Value} {meth : Method} {c : Code} (C : Cx G y p s m args meth c) : Ro G s s.heap := C.2.2.2.2.2.2.2.2.2.1
theorem Cx.nb {G : gx} {y : my} {p : Program} {s : State} {m : MethodId} {args : Array Value} {meth : Method} {c : Code} (C : Cx G y p s m args meth c) : g_b G ≤ s.heap.size := C.2.2.2.2.2.2.2.2.2.2
theorem Cx.nt {G : gx} {y : my} {p : Program} {s : State} {m : MethodId} {args : Array Value} {meth : Method} {c : Code} (C : Cx G y p s m args meth c) {w : Cond} (hw : w ∈ nw) : w.before args s = true := va_Nw.use (nw_tab hw) (C.kt.2 w hw)
section HR
variable {G : gx} {y : my} {b : bg} {pc : Nat} {L : List (Option Value)} {S : List Value} {h : ah} {Q : Option Value → ah → Prop}
theorem V_get {k ci j index N : Nat} {fs : List Value} {v : Value} {C0 : String} {T : u_T} (hd : decode y.2.1 pc = .ok (.getfield index, 3)) (hcl : vwCl[ci]? = some (C0, T, N)) (hc : h (k + 2) = (ci, .inl fs)) (hci : ci < 100) (hj : j < N) (hw : Cond.fieldLink y.1.cls index (T j).1 (T j).2.1 (T j).2.2.1 ∈ gw) (hv : fs[j]? = some v) (kk : V G y b (pc + 3) L (v :: S) h Q) : V G y b pc L (.ref (k + 2) :: S) h Q :=
  fun p e s m args below meth c H locs ls C c1 c2 hP hS hl => va_get C.1 C.2.1 C.2.2.2.2.2.1 (fun w hh => List.mem_cons_of_mem _ (gw_cls hcl w hh)) C.own C.kt.1 hP.1 k (hP.el hc hci) hcl j hj (C.ts hw) (fun _ z => z) (by rw [List.getElem?_map, hv]; rfl) hd (kk p e s m args below meth c H locs ls C c1 c2 hP hS hl)
theorem V_getN {k ci j index N : Nat} {fs : List Value} {v : Value} {C0 host : String} {T : u_T} (hd : decode y.2.1 pc = .ok (.getfield index, 3)) (hcl : vwCl[ci]? = some (C0, T, N)) (hc : h (k + 2) = (ci, .inl fs)) (hci : ci < 100) (hj : j < N) (hw : Cond.fieldLinkNest y.1.cls index (T j).1 (T j).2.1 (T j).2.2.1 host ∈ nw) (hv : fs[j]? = some v) (kk : V G y b (pc + 3) L (v :: S) h Q) : V G y b pc L (.ref (k + 2) :: S) h Q :=
  fun p e s m args below meth c H locs ls C c1 c2 hP hS hl => va_getN C.1 C.2.1 C.2.2.2.2.2.1 (fun w hh => List.mem_cons_of_mem _ (gw_cls hcl w hh)) C.own C.kt.1 hP.1 k (hP.el hc hci) hcl j hj (C.nt hw) (fun _ z => z) (by rw [List.getElem?_map, hv]; rfl) hd (kk p e s m args below meth c H locs ls C c1 c2 hP hS hl)
theorem put_at {ci j N a : Nat} {fs : List Value} {v : Value} {C0 : String} {T : u_T} {cell : Cell} {H1 : Heap} {s : State} {args : Array Value} {ws : List Cond} (hts : ∀ w ∈ ws, w.before args s = true) (hin : ∀ w ∈ gw, w ∈ ws) (hK : Kt G s) (hcl : vwCl[ci]? = some (C0, T, N)) (hj : j < N) (hl : j < fs.length) (q2 : cell.cls = (g_D G).1 ci) (q3 : cell.vm = .none) (q4 : ∀ k, k < N → cell.slots[(g_D G).2 ci k]? = some (vp_V (fs.map (cv G)) k)) (e1 : H1[a]? = some (cell.setSlot ((g_D G).2 ci j) (cv G v))) : va_at (g_D G) vwCl (a, cx G (ci, .inl (fs.set j v))) H1 := by
  have hap := va_apart (own := C0) (D := g_D G) (tys := g_ty G) hts (fun w hh => hin w (gw_cls hcl w hh)) (cl_ty ci) (cl_tyok hcl) (cl_nm hcl) hK.1 hcl
  refine ⟨_, hcl, ?_⟩
  refine t_OB.to (V := updV (vp_V (fs.map (cv G))) j (cv G v)) ⟨_, e1, q2, q3, t_set q4 hap hj _⟩ (fun i _ => ?_)
  rw [vp_updV_set (by simpa using hl), List.map_set]
theorem V_put {k ci j index N : Nat} {fs : List Value} {v : Value} {C0 : String} {T : u_T} {ty : FieldType} (hd : decode y.2.1 pc = .ok (.putfield index, 3)) (hcl : vwCl[ci]? = some (C0, T, N)) (hc : h (k + 2) = (ci, .inl fs)) (hci : ci < 100) (hj : j < N) (hw : Cond.fieldLink y.1.cls index (T j).1 (T j).2.1 (T j).2.2.1 ∈ gw) (hfin : (T j).2.2.2 = false) (hty : parseFieldDescriptor (T j).2.2.1 = some ty) (hn : narrow ty (cv G v) = cv G v) (hfit : fits ty (cv G v) = true) (hl : j < fs.length) (kk : V G y b (pc + 3) L S (va_up h (k + 2) (ci, .inl (fs.set j v))) Q) : V G y b pc L (v :: .ref (k + 2) :: S) h Q :=
  fun p e s m args below meth c H locs ls C c1 c2 hP hS hlv => by
    obtain ⟨r, h1, cell, q1, q2, q3, q4⟩ := hP.at hc hci
    have hr : r = (C0, T, N) := Option.some.inj (h1.symm.trans hcl)
    subst hr
    obtain ⟨hSl, hfc, kC, hkC, hkind⟩ := C.kt.1.1 ci _ hcl
    obtain ⟨cf, kf, fi, f, hi, hsl⟩ := hSl j hj
    have hlay := C.ts (gw_cls hcl _ (u_in_lay hj))
    unfold u_lay at hlay
    rw [if_neg (by rw [hfin]; decide)] at hlay
    have hst := (u_facts hfc hkC (u_lays C.2.2.2.2.2.1 (fun w hh => List.mem_cons_of_mem _ (gw_cls hcl w hh)) hj) hi).1
    have h6 := u_store hfc hkC hkind hlay hi hty hn hfit
    refine W.putK C.1 C.2.1 (f := f) ⟨C.own, C.ts hw, ⟨_, _, _, hi⟩, hst⟩ (by rw [q2]; exact h6) q1 q3 (by rw [hsl]; exact k2_hasslot (q4 j hj)) rfl rfl hd fun H' e1 e2 e3 => ?_
    rw [hsl] at e1 ⊢
    exact kk p e s m args below meth c H' _ ls C c1 c2 (hP.set hc hci (put_at C.2.2.2.2.2.1 (fun w hh => List.mem_cons_of_mem _ hh) C.kt hcl hj hl q2 q3 q4 e1) e2 e3) (hS.put e2 e3 (Nat.le_add_right _ _)) hlv
theorem V_putN {k ci j index N : Nat} {fs : List Value} {v : Value} {C0 host : String} {T : u_T} {ty : FieldType} (hd : decode y.2.1 pc = .ok (.putfield index, 3)) (hcl : vwCl[ci]? = some (C0, T, N)) (hc : h (k + 2) = (ci, .inl fs)) (hci : ci < 100) (hj : j < N) (hw : Cond.fieldLinkNest y.1.cls index (T j).1 (T j).2.1 (T j).2.2.1 host ∈ nw) (hfin : (T j).2.2.2 = false) (hty : parseFieldDescriptor (T j).2.2.1 = some ty) (hn : narrow ty (cv G v) = cv G v) (hfit : fits ty (cv G v) = true) (hl : j < fs.length) (kk : V G y b (pc + 3) L S (va_up h (k + 2) (ci, .inl (fs.set j v))) Q) : V G y b pc L (v :: .ref (k + 2) :: S) h Q :=
  fun p e s m args below meth c H locs ls C c1 c2 hP hS hlv => by
    obtain ⟨r, h1, cell, q1, q2, q3, q4⟩ := hP.at hc hci
    have hr : r = (C0, T, N) := Option.some.inj (h1.symm.trans hcl)
    subst hr
    obtain ⟨hSl, hfc, kC, hkC, hkind⟩ := C.kt.1.1 ci _ hcl
    obtain ⟨cf, kf, fi, f, hi, hsl⟩ := hSl j hj
    have hlay := C.ts (gw_cls hcl _ (u_in_lay hj))
    unfold u_lay at hlay
    rw [if_neg (by rw [hfin]; decide)] at hlay
    have hst := (u_facts hfc hkC (u_lays C.2.2.2.2.2.1 (fun w hh => List.mem_cons_of_mem _ (gw_cls hcl w hh)) hj) hi).1
    have h6 := u_store hfc hkC hkind hlay hi hty hn hfit
    refine va_WputK C.1 C.2.1 (f := f) C.own (C.nt hw) hi hst (by rw [q2]; exact h6) q1 q3 (by rw [hsl]; exact k2_hasslot (q4 j hj)) rfl rfl hd fun H' e1 e2 e3 => ?_
    rw [hsl] at e1 ⊢
    exact kk p e s m args below meth c H' _ ls C c1 c2 (hP.set hc hci (put_at C.2.2.2.2.2.1 (fun w hh => List.mem_cons_of_mem _ hh) C.kt hcl hj hl q2 q3 q4 e1) e2 e3) (hS.put e2 e3 (Nat.le_add_right _ _)) hlv
theorem V_putF {k ci j index N : Nat} {fs : List Value} {v : Value} {C0 : String} {T : u_T} {ty : FieldType} (hd : decode y.2.1 pc = .ok (.putfield index, 3)) (hcl : vwCl[ci]? = some (C0, T, N)) (hc : h (k + 2) = (ci, .inl fs)) (hci : ci < 100) (hj : j < N) (hw : Cond.fieldLink y.1.cls index (T j).1 (T j).2.1 (T j).2.2.1 ∈ gw) (hfin : (T j).2.2.2 = true) (hin2 : y.1.name = "<init>") (hdecl : (T j).1 = y.1.cls) (hty : parseFieldDescriptor (T j).2.2.1 = some ty) (hn : narrow ty (cv G v) = cv G v) (hfit : fits ty (cv G v) = true) (hl : j < fs.length) (kk : V G y b (pc + 3) L S (va_up h (k + 2) (ci, .inl (fs.set j v))) Q) : V G y b pc L (v :: .ref (k + 2) :: S) h Q :=
  fun p e s m args below meth c H locs ls C c1 c2 hP hS hlv => by
    obtain ⟨r, h1, cell, q1, q2, q3, q4⟩ := hP.at hc hci
    have hr : r = (C0, T, N) := Option.some.inj (h1.symm.trans hcl)
    subst hr
    obtain ⟨hSl, hfc, kC, hkC, hkind⟩ := C.kt.1.1 ci _ hcl
    obtain ⟨cf, kf, fi, f, hi, hsl⟩ := hSl j hj
    have hlay := C.ts (gw_cls hcl _ (u_in_lay hj))
    unfold u_lay at hlay
    rw [if_pos hfin] at hlay
    have hst := (u_facts hfc hkC (u_lays C.2.2.2.2.2.1 (fun w hh => List.mem_cons_of_mem _ (gw_cls hcl w hh)) hj) hi).1
    have hcf : m.cls = cf := by
      obtain ⟨_, _, c', _, _, _, -, -, hf', -, -, -, hown2, -⟩ := Cond.laysFinal_spec hlay
      have e1 : c' = cf := by have := hi.symm.trans hf'; simp at this; exact this.1.symm
      rw [hdecl] at hown2
      rw [← e1]; exact Option.some.inj (C.own.symm.trans hown2)
    have h6 := u_fits hfc hkC hkind (Or.inr hlay) hi hty hn hfit
    refine W.putFinK C.1 C.2.1 C.own (C.ts hw) hi hst hcf (C.2.2.2.2.2.2.2.1.trans hin2) (by rw [q2]; exact h6) q1 q3 (by rw [hsl]; exact k2_hasslot (q4 j hj)) rfl rfl hd fun H' e1 e2 e3 => ?_
    rw [hsl] at e1 ⊢
    exact kk p e s m args below meth c H' _ ls C c1 c2 (hP.set hc hci (put_at C.2.2.2.2.2.1 (fun w hh => List.mem_cons_of_mem _ hh) C.kt hcl hj hl q2 q3 q4 e1) e2 e3) (hS.put e2 e3 (Nat.le_add_right _ _)) hlv
theorem V_iald {k n : Nat} {f : Nat → Int32} {i : Int32} (hd : decode y.2.1 pc = .ok (.iaload, 1)) (hc : h (k + 2) = (0, .inr (n, .inl f))) (hin : vp_in i n) (kk : V G y b (pc + 1) L (.int (f i.toNatClampNeg) :: S) h Q) : V G y b pc L (.int i :: .ref (k + 2) :: S) h Q :=
  fun p e s m args below meth c H locs ls C c1 c2 hP hS hl => va_iald C.1 C.2.1 C.kt.1 hP.1 k 0 (hP.el hc (by show 0 < 100; decide)) rfl hin hd (kk p e s m args below meth c H locs ls C c1 c2 hP hS hl)
theorem V_bald {k n : Nat} {f : Nat → Int32} {i : Int32} (hd : decode y.2.1 pc = .ok (.baload, 1)) (hc : h (k + 2) = (1, .inr (n, .inl f))) (hin : vp_in i n) (kk : V G y b (pc + 1) L (.int (f i.toNatClampNeg) :: S) h Q) : V G y b pc L (.int i :: .ref (k + 2) :: S) h Q :=
  fun p e s m args below meth c H locs ls C c1 c2 hP hS hl => va_bald C.1 C.2.1 C.kt.1 hP.1 k 1 (hP.el hc (by show 1 < 100; decide)) rfl hin hd (kk p e s m args below meth c H locs ls C c1 c2 hP hS hl)
theorem V_zald {k n : Nat} {f : Nat → Int32} {i : Int32} (hd : decode y.2.1 pc = .ok (.baload, 1)) (hc : h (k + 2) = (2, .inr (n, .inl f))) (hin : vp_in i n) (kk : V G y b (pc + 1) L (.int (f i.toNatClampNeg) :: S) h Q) : V G y b pc L (.int i :: .ref (k + 2) :: S) h Q :=
  fun p e s m args below meth c H locs ls C c1 c2 hP hS hl => va_zald C.1 C.2.1 C.kt.1 hP.1 k 2 (hP.el hc (by show 2 < 100; decide)) rfl hin hd (kk p e s m args below meth c H locs ls C c1 c2 hP hS hl)
theorem V_lald {k n : Nat} {f : Nat → Int64} {i : Int32} (hd : decode y.2.1 pc = .ok (.laload, 1)) (hc : h (k + 2) = (3, .inr (n, .inr (.inl f)))) (hin : vp_in i n) (kk : V G y b (pc + 1) L (.long (f i.toNatClampNeg) :: S) h Q) : V G y b pc L (.int i :: .ref (k + 2) :: S) h Q :=
  fun p e s m args below meth c H locs ls C c1 c2 hP hS hl => va_lald C.1 C.2.1 C.kt.1 hP.1 k 3 (hP.el hc (by show 3 < 100; decide)) rfl hin hd (kk p e s m args below meth c H locs ls C c1 c2 hP hS hl)
theorem V_aald {k n r : Nat} {f : Nat → Option Nat} {i : Int32} (hd : decode y.2.1 pc = .ok (.aaload, 1)) (hc : h (k + 2) = (4, .inr (n, .inr (.inr f)))) (hin : vp_in i n) (hr : f i.toNatClampNeg = some r) (kk : V G y b (pc + 1) L (.ref r :: S) h Q) : V G y b pc L (.int i :: .ref (k + 2) :: S) h Q :=
  fun p e s m args below meth c H locs ls C c1 c2 hP hS hl => va_aldq C.1 C.2.1 C.kt.1 hP.1 k 4 (hP.el hc (by show 4 < 100; decide)) rfl hin hd (by
    rw [hr]
    exact kk p e s m args below meth c H locs ls C c1 c2 hP hS hl)
theorem V_alen {k n t : Nat} {f : (Nat → Int32) ⊕ (Nat → Int64) ⊕ (Nat → Option Nat)} (hd : decode y.2.1 pc = .ok (.arraylength, 1)) (hc : h (k + 2) = (t, .inr (n, f))) (ht : t < 5) (kk : V G y b (pc + 1) L (.int (nI n) :: S) h Q) : V G y b pc L (.ref (k + 2) :: S) h Q :=
  fun p e s m args below meth c H locs ls C c1 c2 hP hS hl => by
    have hty : ∃ ty, (g_ty G)[t]? = some (g_T G t, ty) := by
      match t, ht with
      | 0, _ => exact ⟨_, rfl⟩
      | 1, _ => exact ⟨_, rfl⟩
      | 2, _ => exact ⟨_, rfl⟩
      | 3, _ => exact ⟨_, rfl⟩
      | 4, _ => exact ⟨_, rfl⟩
    obtain ⟨ty, hty⟩ := hty
    have he := hP.el hc (by show t < 100; omega)
    obtain f | f | f := f
    · exact va_alen C.1 C.2.1 C.kt.1 hP.1 k t he hty rfl hd (kk p e s m args below meth c H locs ls C c1 c2 hP hS hl)
    · exact va_alen C.1 C.2.1 C.kt.1 hP.1 k t he hty rfl hd (kk p e s m args below meth c H locs ls C c1 c2 hP hS hl)
    · exact va_alen C.1 C.2.1 C.kt.1 hP.1 k t he hty rfl hd (kk p e s m args below meth c H locs ls C c1 c2 hP hS hl)
theorem V_iast {k n : Nat} {f : Nat → Int32} {i x : Int32} (hd : decode y.2.1 pc = .ok (.iastore, 1)) (hc : h (k + 2) = (0, .inr (n, .inl f))) (hin : vp_in i n) (kk : V G y b (pc + 1) L S (va_up h (k + 2) (0, .inr (n, .inl (upd f i.toNatClampNeg x)))) Q) : V G y b pc L (.int x :: .int i :: .ref (k + 2) :: S) h Q :=
  fun p e s m args below meth c H locs ls C c1 c2 hP hS hl => by
    refine W.iast C.1 C.2.1 (hP.at hc (by show 0 < 100; decide)) ((C.kt.1.2 0 _ rfl).1 n (fun j => .int (f j))) (fun q => by cases q) (by show ¬ (i < 0 ∨ (arrV _ _ _).slots.size ≤ _); rw [arrV_size]; exact hin) rfl rfl hd fun H1 e1 z oq => ?_
    refine kk p e s m args below meth c H1 _ ls C c1 c2 (hP.set hc (by show 0 < 100; decide) ?_ z oq) (hS.put z oq (Nat.le_add_right _ _)) hl
    show H1[g_b G + k]? = some (vp_cell _ _)
    rw [e1]
    rw [vp_cell_i, vp_cell_i, arrV_store]
    congr 2
    funext q
    by_cases hq : q = i.toNatClampNeg
    · subst hq
      simp [updV, upd]
    · simp [updV, upd, hq]
theorem V_bast {k n : Nat} {f : Nat → Int32} {i x : Int32} (hd : decode y.2.1 pc = .ok (.bastore, 1)) (hc : h (k + 2) = (1, .inr (n, .inl f))) (hin : vp_in i n) (kk : V G y b (pc + 1) L S (va_up h (k + 2) (1, .inr (n, .inl (upd f i.toNatClampNeg (vp_nar .byte x))))) Q) : V G y b pc L (.int x :: .int i :: .ref (k + 2) :: S) h Q :=
  fun p e s m args below meth c H locs ls C c1 c2 hP hS hl => by
    refine W.bast C.1 C.2.1 (hP.at hc (by show 1 < 100; decide)) ((C.kt.1.2 1 _ rfl).1 n (fun j => .int (f j))) (fun q => by cases q) (by show ¬ (i < 0 ∨ (arrV _ _ _).slots.size ≤ _); rw [arrV_size]; exact hin) rfl rfl hd fun H1 e1 z oq => ?_
    refine kk p e s m args below meth c H1 _ ls C c1 c2 (hP.set hc (by show 1 < 100; decide) ?_ z oq) (hS.put z oq (Nat.le_add_right _ _)) hl
    show H1[g_b G + k]? = some (vp_cell _ _)
    rw [e1]
    rw [vp_cell_i, vp_cell_i, arrV_store]
    congr 2
    funext q
    by_cases hq : q = i.toNatClampNeg
    · subst hq
      simp [updV, upd, vp_nar]
      try rfl
    · simp [updV, upd, hq]
theorem V_zast {k n : Nat} {f : Nat → Int32} {i x : Int32} (hd : decode y.2.1 pc = .ok (.bastore, 1)) (hc : h (k + 2) = (2, .inr (n, .inl f))) (hin : vp_in i n) (kk : V G y b (pc + 1) L S (va_up h (k + 2) (2, .inr (n, .inl (upd f i.toNatClampNeg (vp_nar .boolean x))))) Q) : V G y b pc L (.int x :: .int i :: .ref (k + 2) :: S) h Q :=
  fun p e s m args below meth c H locs ls C c1 c2 hP hS hl => by
    refine W.zast C.1 C.2.1 (hP.at hc (by show 2 < 100; decide)) ((C.kt.1.2 2 _ rfl).1 n (fun j => .int (f j))) (fun q => by cases q) (by show ¬ (i < 0 ∨ (arrV _ _ _).slots.size ≤ _); rw [arrV_size]; exact hin) rfl rfl hd fun H1 e1 z oq => ?_
    refine kk p e s m args below meth c H1 _ ls C c1 c2 (hP.set hc (by show 2 < 100; decide) ?_ z oq) (hS.put z oq (Nat.le_add_right _ _)) hl
    show H1[g_b G + k]? = some (vp_cell _ _)
    rw [e1]
    rw [vp_cell_i, vp_cell_i, arrV_store]
    congr 2
    funext q
    by_cases hq : q = i.toNatClampNeg
    · subst hq
      simp [updV, upd, vp_nar]
      try rfl
    · simp [updV, upd, hq]
theorem V_last {k n : Nat} {f : Nat → Int64} {i : Int32} {x : Int64} (hd : decode y.2.1 pc = .ok (.lastore, 1)) (hc : h (k + 2) = (3, .inr (n, .inr (.inl f)))) (hin : vp_in i n) (kk : V G y b (pc + 1) L S (va_up h (k + 2) (3, .inr (n, .inr (.inl (vp_updL f i.toNatClampNeg x))))) Q) : V G y b pc L (.long x :: .int i :: .ref (k + 2) :: S) h Q :=
  fun p e s m args below meth c H locs ls C c1 c2 hP hS hl => by
    refine W.last C.1 C.2.1 (hP.at hc (by show 3 < 100; decide)) ((C.kt.1.2 3 _ rfl).1 n (fun j => .long (f j))) (fun q => by cases q) (by show ¬ (i < 0 ∨ (arrV _ _ _).slots.size ≤ _); rw [arrV_size]; exact hin) rfl rfl hd fun H1 e1 z oq => ?_
    refine kk p e s m args below meth c H1 _ ls C c1 c2 (hP.set hc (by show 3 < 100; decide) ?_ z oq) (hS.put z oq (Nat.le_add_right _ _)) hl
    show H1[g_b G + k]? = some (vp_cell _ _)
    rw [e1]
    rw [vp_cell_l, vp_cell_l, arrV_store]
    congr 2
    funext q
    by_cases hq : q = i.toNatClampNeg
    · subst hq
      simp [updV, vp_updL]
    · simp [updV, vp_updL, hq]
/-- the script, and the table -/
theorem V_sld {i : Int32} (hd : decode y.2.1 pc = .ok (.iaload, 1)) (hin : vp_in i (g_n G)) (kk : V G y b (pc + 1) L (.int (g_x G i.toNatClampNeg) :: S) h Q) : V G y b pc L (.int i :: .ref 0 :: S) h Q :=
  fun p e s m args below meth c H locs ls C c1 c2 hP hS hl => va_sld C.1 C.2.1 C.ro.1 (Nat.lt_of_lt_of_le C.ro.2.2.2.1 C.nb) (Nat.not_le.mpr C.ro.2.2.2.1) hS hin hd (kk p e s m args below meth c H locs ls C c1 c2 hP hS hl)
theorem V_slen (hd : decode y.2.1 pc = .ok (.arraylength, 1)) (kk : V G y b (pc + 1) L (.int (nI (g_n G)) :: S) h Q) : V G y b pc L (.ref 0 :: S) h Q :=
  fun p e s m args below meth c H locs ls C c1 c2 hP hS hl => va_slen C.1 C.2.1 C.ro.1 (Nat.lt_of_lt_of_le C.ro.2.2.2.1 C.nb) (Nat.not_le.mpr C.ro.2.2.2.1) hS hd (kk p e s m args below meth c H locs ls C c1 c2 hP hS hl)
theorem V_tld {i : Int32} (hd : decode y.2.1 pc = .ok (.iaload, 1)) (hin : vp_in i 15) (kk : V G y b (pc + 1) L (.int (totF i.toNatClampNeg) :: S) h Q) : V G y b pc L (.int i :: .ref 1 :: S) h Q :=
  fun p e s m args below meth c H locs ls C c1 c2 hP hS hl => va_sld C.1 C.2.1 C.ro.2.1 (Nat.lt_of_lt_of_le C.ro.2.2.2.2 C.nb) (Nat.not_le.mpr C.ro.2.2.2.2) hS hin hd (kk p e s m args below meth c H locs ls C c1 c2 hP hS hl)
theorem V_gets {index : Nat} (hd : decode y.2.1 pc = .ok (.getstatic index, 3)) (hw : Cond.fieldLink y.1.cls index RX3 "TOTIENT" "[I" ∈ gw) (kk : V G y b (pc + 3) L (.ref 1 :: S) h Q) : V G y b pc L S h Q :=
  fun p e s m args below meth c H locs ls C c1 c2 hP hS hl => va_gets C.1 C.2.1 C.ro.2.2.1 hS C.own (C.ts hw) (fun _ z => z) hd (kk p e s m args below meth c H locs ls C c1 c2 hP hS hl)
/-! the ends -/
theorem V_iret {v : Int32} (hd : decode y.2.1 pc = .ok (.ireturn, 1)) (hr : y.2.2.2 = some .int) (kq : Q (some (.int v)) h) : V G y b pc L [.int v] h Q :=
  fun p e s m args below meth c H locs ls C c1 c2 hP hS hl => W.widen c1 c2 (W.iret (v := v) C.1 C.2.1 (C.2.2.1.trans hr) (fun t ht hW => ⟨⟨some (.int v), h, rfl, kq, by rw [ht]; exact hP⟩, hS.F ht⟩) hS.2.2 hd C.2.2.2.2.2.2.1)
theorem V_zret {v : Int32} (hd : decode y.2.1 pc = .ok (.ireturn, 1)) (hr : y.2.2.2 = some .boolean) (hv : narrow .boolean (.int v) = .int v) (kq : Q (some (.int v)) h) : V G y b pc L [.int v] h Q :=
  fun p e s m args below meth c H locs ls C c1 c2 hP hS hl => W.widen c1 c2 (W.zret (v := v) C.1 C.2.1 (C.2.2.1.trans hr) hv (fun t ht hW => ⟨⟨some (.int v), h, rfl, kq, by rw [ht]; exact hP⟩, hS.F ht⟩) hS.2.2 hd C.2.2.2.2.2.2.1)
theorem V_lret {v : Int64} (hd : decode y.2.1 pc = .ok (.lreturn, 1)) (hr : y.2.2.2 = some .long) (kq : Q (some (.long v)) h) : V G y b pc L [.long v] h Q :=
  fun p e s m args below meth c H locs ls C c1 c2 hP hS hl => W.widen c1 c2 (W.lret (v := v) C.1 C.2.1 (C.2.2.1.trans hr) (fun t ht hW => ⟨⟨some (.long v), h, rfl, kq, by rw [ht]; exact hP⟩, hS.F ht⟩) hS.2.2 hd C.2.2.2.2.2.2.1)
theorem V_vret (hd : decode y.2.1 pc = .ok (.return_, 1)) (hr : y.2.2.2 = none) (kq : Q none h) : V G y b pc L [] h Q :=
  fun p e s m args below meth c H locs ls C c1 c2 hP hS hl => W.widen c1 c2 (W.vret C.1 C.2.1 (C.2.2.1.trans hr) (fun t ht hW => ⟨⟨none, h, rfl, kq, by rw [ht]; exact hP⟩, hS.F ht⟩) hS.2.2 hd C.2.2.2.2.2.2.1)
theorem V_aret {v : Nat} (hd : decode y.2.1 pc = .ok (.areturn, 1)) (hr : y.2.2.2 = some (.array .int)) (kq : Q (some (.ref v)) h) : V G y b pc L [.ref v] h Q :=
  fun p e s m args below meth c H locs ls C c1 c2 hP hS hl => W.widen c1 c2 (W.aret (v := .ref (ad G v)) C.1 C.2.1 (C.2.2.1.trans hr) (Or.inr ⟨_, rfl⟩) (Or.inr ⟨_, rfl⟩) (fun t ht hW => ⟨⟨some (.ref v), h, rfl, kq, by rw [ht]; exact hP⟩, hS.F ht⟩) hS.2.2 hd C.2.2.2.2.2.2.1)
end HR
end
section
/-! calls, and a contract out of a walk -/
theorem Kt.moved {G : gx} {s U : State} (hW : s.WarmedH U.vm) (h : Kt G s) : Kt G U := ⟨va_K.moved hW.alike h.1, fun w hw => nw_warm hw hW (h.2 w hw)⟩
theorem Kt.same {G : gx} {u U : State} (hv : u.vm = U.vm) (h : Kt G u) : Kt G U := ⟨va_K.moved (by rw [hv]; exact Vm.Alike.refl U.vm) h.1, fun w hw => va_Nw.same (nw_tab hw) hv (h.2 w hw)⟩
theorem Ro.moved {G : gx} {s U : State} {H : Heap} (hW : s.vm.Alike U.vm) (h : Ro G s H) : Ro G U H := ⟨h.1.moved hW, h.2.1.moved hW, h.2.2.1.moved hW, h.2.2.2⟩
theorem Ro.kept {G : gx} {U : State} {H H1 : Heap} (h : Ro G U H) (hb : g_b G ≤ H.size) (hq : ∀ q : Nat, q < H.size → ¬ g_A G q → H1[q]? = H[q]?) : Ro G U H1 := ⟨h.1.kept (hq _ (Nat.lt_of_lt_of_le h.2.2.2.1 hb) (Nat.not_le.mpr h.2.2.2.1)), h.2.1.kept (hq _ (Nat.lt_of_lt_of_le h.2.2.2.2 hb) (Nat.not_le.mpr h.2.2.2.2)), h.2.2.1.kept hq, h.2.2.2⟩
theorem pc_blind (G : gx) (a : List Value) (h : ah) : FrameBlind (va_Pc (a.map (cv G)) (PU G h)) := by
  intro a U g mk q
  obtain ⟨q0, q1, q2, q3⟩ := q
  exact ⟨q0, q1, Kt.same (u := U) rfl q2, Ro.moved (Vm.Alike.refl U.vm) q3⟩
theorem lq_la (G : gx) : ∀ (a : List Value) (i : Nat), (a.all fun v => v.category == 1) = true → lq G i (a.map some) = lv_args i (a.map (cv G))
  | [], _, _ => rfl
  | v :: vs, i, h => by
    simp only [List.all_cons, Bool.and_eq_true, beq_iff_eq] at h
    show (i, cv G v) :: lq G (i + 1) (vs.map some) = (i, cv G v) :: lv_args (if (cv G v).category = 2 then i + 2 else i + 1) (vs.map (cv G))
    rw [cv_cat, h.1, if_neg (by decide), lq_la G vs (i + 1) h.2]
/-- the locals with which a method begins -/
def la : List Value → List (Option Value)
  | [] => []
  | v :: vs => match v with
    | .long x => some (.long x) :: none :: la vs
    | .double x => some (.double x) :: none :: la vs
    | v => some v :: la vs
theorem lq_la2 (G : gx) : ∀ (a : List Value) (i : Nat), lq G i (la a) = lv_args i (a.map (cv G))
  | [], _ => rfl
  | v :: vs, i => by
    cases v <;> exact congrArg (List.cons _) (lq_la2 G vs _)
theorem Ct_of {G : gx} {y : my} {d mc ms : Nat} {a : List Value} {h : ah} {Q : Option Value → ah → Prop} (hy : plainName y.1.cls = true) (ha : (lg_sl (a.map (cv G))).length ≤ y.2.2.1) (k : V G y (d, mc, ms, 0, 0) 0 (la a) [] h Q) : Ct G y d mc ms a h Q := by
  refine Met.ofW (cc := y.2.1) (maxL := y.2.2.1) (ret := y.2.2.2) hy rfl ?_
  intro p e s m args below meth c s₁ B hml hv
  obtain ⟨rfl, hH, hK, hR⟩ := hv
  have hl := lv_entry (a.map (cv G)) (n := y.2.2.1) ha
  rw [lg_entry_eq]
  generalize (lg_sl (a.map (cv G)) ++ List.replicate (y.2.2.1 - (lg_sl (a.map (cv G))).length) Slot.unset).toArray = ls at hl ⊢
  rw [← lq_la2 G a 0] at hl
  exact k p e s m _ below meth c s.heap [] ls ⟨B.exec, B.bytes, B.returns, hml, findClass_of_methodNamed B.named, atoms_spec (ws := w_s y) B.pre, B.notSynchronized, (name_of_methodNamed B.named B.method).1, hK, hR, by rw [hH.2.2]; exact Nat.le_add_right _ _⟩ (Nat.zero_le _) (Nat.zero_le _) hH va_S.rf hl
theorem Ct.mono {G : gx} {y : my} {d mc ms : Nat} {a : List Value} {h : ah} {Q Q2 : Option Value → ah → Prop} (hc : Ct G y d mc ms a h Q) (hq : ∀ r h', Q r h' → Q2 r h') : Ct G y d mc ms a h Q2 := by
  intro p e ha hc2 hk s m args below hf happ hP hZ
  obtain ⟨t, o, h1, h2, h3, ⟨⟨r, h', e1, e2, e3⟩, hF⟩, hL⟩ := hc p e ha hc2 hk s m args below hf happ hP hZ
  exact ⟨t, o, h1, h2, h3, ⟨⟨r, h', e1, hq _ _ e2, e3⟩, hF⟩, hL⟩
theorem lo_step {d d' maxL : Nat} (h : d' < d) (hd : d ≤ 9) (hm : maxL ≤ 14) : 8 + (maxL + 11) + r_lo d' ≤ r_lo d := by
  unfold r_lo
  split <;> split <;> omega
theorem ws_in {y y' : my} (hw : Cond.code y'.1 y'.2.1 y'.2.2.1 y'.2.2.2 ∈ gw) : GoodIn (w_s y) (w_s y') := by
  intro w h
  rcases List.mem_cons.mp h with rfl | h
  · exact ⟨List.mem_cons_of_mem _ hw, gw_good hw⟩
  · exact ⟨List.mem_cons_of_mem _ h, gw_good h⟩
theorem Hp.recv {G : gx} {h : ah} {H : Heap} (hP : Hp G h H) {s : State} (hK : Kt G s) {k ci N : Nat} {fs : List Value} {C0 : String} {T : u_T} (hc : h (k + 2) = (ci, .inl fs)) (hci : ci < 100) (hcl : vwCl[ci]? = some (C0, T, N)) : ∃ cell : Cell, H[g_b G + k]? = some cell ∧ cell.vm.isStatics = false ∧ s.vm.findClass C0 = some cell.cls :=
  va_recv (q := (C0, T, N)) hK.1 hP.1 hcl (hP.el hc hci)
theorem U_pre {G : gx} {h : ah} {H : Heap} {s U : State} {locs : List Loc} {a : List Value} (hP : Hp G h H) (hK : Kt G s) (hR : Ro G s s.heap) (hb : g_b G ≤ s.heap.size) (hS : va_S (g_A G) s.heap H locs) (hU : U.heap = H) (hW : s.WarmedH U.vm) : va_Pc (a.map (cv G)) (PU G h) (a.map (cv G)).toArray U :=
  ⟨rfl, by rw [hU]; exact hP, hK.moved hW, by rw [hU]; exact (Ro.kept hR hb hS.2.1).moved hW.alike⟩
section CR
variable {G : gx} {y y' : my} {d mc ms cc zz pc d' mc' ms' : Nat} {L : List (Option Value)} {S S0 : List Value} {h : ah} {Q Q' : Option Value → ah → Prop}
theorem V_run {p : Program} {e : Env} {s : State} {m : MethodId} {args : Array Value} {below : List Frame} {meth : Method} {c : Code} {H : Heap} {locs : List Loc} {ls : Array Slot} {a : Array Value}
    (hr : va_Run p (g_l G) e (r_m d mc ms) s m args below meth c H locs cc zz mc' ms' (F0 m pc ls (S0.map (cv G))) (S.map (cv G)) (Qm G Q' a) (g_A G)) (hS : va_S (g_A G) s.heap H locs)
    (kk : ∀ (r : Option Value) (h' : ah) (H1 : Heap) (locs1 : List Loc), Q' r h' → Hp G h' H1 → va_S (g_A G) s.heap H1 locs1 → W p (g_l G) e (r_m d mc ms) s m args below meth c H1 locs1 (cc + mc') (zz + ms') (MQ below (Qm G Q) args s mc ms (g_A G)) (F0 m (pc + 3) ls ((r.toList ++ S).map (cv G)))) :
    W p (g_l G) e (r_m d mc ms) s m args below meth c H locs cc zz (MQ below (Qm G Q) args s mc ms (g_A G)) (F0 m pc ls (S0.map (cv G))) := by
  intro T hT X
  obtain ⟨v, st₀, t, T', L, h0, X', hL, e1, e2, ⟨⟨r, h', hv, hq, hp⟩, hz, hk⟩, st⟩ := hr T hT X
  cases hv
  rw [h0] at hz hk
  obtain ⟨t2, a1, b1⟩ := kk r h' T'.heap (locs ++ L) hq (by rw [e1]; exact hp)
    ⟨Nat.le_trans hS.1 (by rw [e1]; exact hz), fun q h1 h2 => by rw [e1, hk q (Nat.lt_of_lt_of_le h1 hS.1) h2]; exact hS.2.1 q h1 h2, fun q hq => by
      rcases List.mem_append.mp hq with h | h
      · exact hS.2.2 q h
      · exact hL q h⟩ T' rfl X'
  refine ⟨t2, st t2 ?_, b1⟩
  cases r <;> exact a1
/-- words and numbers of a call of y' -/
def Cw (y y' : my) (index n d' : Nat) : Prop := Cond.code y'.1 y'.2.1 y'.2.2.1 y'.2.2.2 ∈ gw ∧ Cond.initialized y'.1.cls ∈ gw ∧ (y'.1.cls ≠ "java/lang/invoke/MethodHandle" ∧ y'.1.cls ≠ "java/lang/invoke/VarHandle" ∧ (parseMethodDescriptor y'.1.desc).map (fun d => d.parameters.length) = some n) ∧ y'.2.2.1 ≤ 14
theorem V_callV {k ci index n N : Nat} {fs As : List Value} {T : u_T} (hM : Ct G y' d' mc' ms' (.ref (k + 2) :: As) h Q') (hd : decode y.2.1 pc = .ok (.invokevirtual index, 3)) (hw : Cond.methodLink y.1.cls index y'.1 ∈ gw ∧ Cond.instanceMethod y'.1 ∈ gw ∧ Cond.selects y'.1.cls y'.1 y'.1 ∈ gw) (cw : Cw y y' index n d') (hcl : vwCl[ci]? = some (y'.1.cls, T, N)) (hc : h (k + 2) = (ci, .inl fs)) (hci : ci < 100) (hdd : d' < d ∧ d ≤ 9) (hn : As.length = n) (hst : S0 = As.reverse ++ .ref (k + 2) :: S) (hrm : (S.map fun v => v.category).sum ≤ 8) (hf : cc + mc' ≤ mc ∧ zz + ms' ≤ ms)
    (kk : ∀ r h', Q' r h' → V G y (d, mc, ms, cc + mc', zz + ms') (pc + 3) L (r.toList ++ S) h' Q) : V G y (d, mc, ms, cc, zz) pc L S0 h Q :=
  fun p e s m args below meth c H locs ls C c1 c2 hP hS hl => by
    refine V_run (va_runV (As := As.map (cv G)) ⟨C.1, C.2.1, C.2.2.2.1, C.own, C.2.2.2.2.2.1⟩ hM ⟨callB_of n C.2.2.2.2.2.1 (ws_in cw.1) rfl rfl rfl (C.ts cw.2.1) (C.ts hw.1) cw.2.2.1 ⟨hdd.1, lo_step hdd.1 hdd.2 cw.2.2.2⟩, C.ts hw.2.1, C.ts hw.2.2⟩ ⟨pc_blind G _ h, hP.recv C.kt hc hci hcl, fun U hU hW => U_pre (a := .ref (k + 2) :: As) hP C.kt C.ro C.nb hS hU hW⟩ rfl (by rw [List.length_map]; exact hn) hl.1 ?_ ?_ hd hf) hS (fun r h' H1 locs1 hq hp hs => kk r h' hq p e s m args below meth c H1 locs1 ls C hf.1 hf.2 hp hs hl)
    · show S0.map (cv G) = _
      rw [hst, List.map_append, List.map_reverse]
      rfl
    · refine lv_room ?_
      rw [List.map_map]
      exact Nat.le_trans (Nat.le_of_eq (congrArg List.sum (List.map_congr_left (fun v _ => cv_cat G v)))) hrm
theorem V_callVN {k ci index n N : Nat} {fs As : List Value} {T : u_T} {host : String} (hM : Ct G y' d' mc' ms' (.ref (k + 2) :: As) h Q') (hd : decode y.2.1 pc = .ok (.invokevirtual index, 3)) (hw : Cond.methodLinkNest y.1.cls index y'.1 host ∈ nw ∧ Cond.instanceMethod y'.1 ∈ gw ∧ Cond.selects y'.1.cls y'.1 y'.1 ∈ gw) (cw : Cw y y' index n d') (hcl : vwCl[ci]? = some (y'.1.cls, T, N)) (hc : h (k + 2) = (ci, .inl fs)) (hci : ci < 100) (hdd : d' < d ∧ d ≤ 9) (hn : As.length = n) (hst : S0 = As.reverse ++ .ref (k + 2) :: S) (hrm : (S.map fun v => v.category).sum ≤ 8) (hf : cc + mc' ≤ mc ∧ zz + ms' ≤ ms)
    (kk : ∀ r h', Q' r h' → V G y (d, mc, ms, cc + mc', zz + ms') (pc + 3) L (r.toList ++ S) h' Q) : V G y (d, mc, ms, cc, zz) pc L S0 h Q :=
  fun p e s m args below meth c H locs ls C c1 c2 hP hS hl => by
    refine V_run (va_runVN (As := As.map (cv G)) ⟨C.1, C.2.1, C.2.2.2.1, C.own, C.2.2.2.2.2.1⟩ hM ⟨va_cnB n C.2.2.2.2.2.1 (ws_in cw.1) rfl rfl rfl (C.kt.2 _ hw.1) (C.ts cw.2.1) cw.2.2.1 ⟨hdd.1, lo_step hdd.1 hdd.2 cw.2.2.2⟩, C.ts hw.2.1, C.ts hw.2.2⟩ ⟨pc_blind G _ h, hP.recv C.kt hc hci hcl, fun U hU hW => U_pre (a := .ref (k + 2) :: As) hP C.kt C.ro C.nb hS hU hW⟩ rfl (by rw [List.length_map]; exact hn) hl.1 ?_ ?_ hd hf) hS (fun r h' H1 locs1 hq hp hs => kk r h' hq p e s m args below meth c H1 locs1 ls C hf.1 hf.2 hp hs hl)
    · show S0.map (cv G) = _
      rw [hst, List.map_append, List.map_reverse]
      rfl
    · refine lv_room ?_
      rw [List.map_map]
      exact Nat.le_trans (Nat.le_of_eq (congrArg List.sum (List.map_congr_left (fun v _ => cv_cat G v)))) hrm
theorem V_callS {index n : Nat} {As : List Value} (hM : Ct G y' d' mc' ms' As h Q') (hd : decode y.2.1 pc = .ok (.invokestatic index, 3)) (hw : Cond.methodLink y.1.cls index y'.1 ∈ gw ∧ Cond.static y'.1 ∈ gw) (cw : Cw y y' index n d') (hdd : d' < d ∧ d ≤ 9) (hn : As.length = n) (hst : S0 = As.reverse ++ S) (hrm : (S.map fun v => v.category).sum ≤ 8) (hf : cc + mc' ≤ mc ∧ zz + ms' ≤ ms)
    (kk : ∀ r h', Q' r h' → V G y (d, mc, ms, cc + mc', zz + ms') (pc + 3) L (r.toList ++ S) h' Q) : V G y (d, mc, ms, cc, zz) pc L S0 h Q :=
  fun p e s m args below meth c H locs ls C c1 c2 hP hS hl => by
    refine V_run (va_runS (As := As.map (cv G)) ⟨C.1, C.2.1, C.2.2.2.1, C.own, C.2.2.2.2.2.1⟩ hM ⟨callB_of n C.2.2.2.2.2.1 (ws_in cw.1) rfl rfl rfl (C.ts cw.2.1) (C.ts hw.1) cw.2.2.1 ⟨hdd.1, lo_step hdd.1 hdd.2 cw.2.2.2⟩, C.ts hw.2⟩ ⟨pc_blind G _ h, fun U hU hW => U_pre (a := As) hP C.kt C.ro C.nb hS hU hW⟩ rfl (by rw [List.length_map]; exact hn) hl.1 ?_ ?_ hd hf) hS (fun r h' H1 locs1 hq hp hs => kk r h' hq p e s m args below meth c H1 locs1 ls C hf.1 hf.2 hp hs hl)
    · show S0.map (cv G) = _
      rw [hst, List.map_append, List.map_reverse]
    · refine lv_room ?_
      rw [List.map_map]
      exact Nat.le_trans (Nat.le_of_eq (congrArg List.sum (List.map_congr_left (fun v _ => cv_cat G v)))) hrm
theorem V_callSN {index n : Nat} {As : List Value} {host : String} (hM : Ct G y' d' mc' ms' As h Q') (hd : decode y.2.1 pc = .ok (.invokestatic index, 3)) (hw : Cond.methodLinkNest y.1.cls index y'.1 host ∈ nw ∧ Cond.static y'.1 ∈ gw) (cw : Cw y y' index n d') (hdd : d' < d ∧ d ≤ 9) (hn : As.length = n) (hst : S0 = As.reverse ++ S) (hrm : (S.map fun v => v.category).sum ≤ 8) (hf : cc + mc' ≤ mc ∧ zz + ms' ≤ ms)
    (kk : ∀ r h', Q' r h' → V G y (d, mc, ms, cc + mc', zz + ms') (pc + 3) L (r.toList ++ S) h' Q) : V G y (d, mc, ms, cc, zz) pc L S0 h Q :=
  fun p e s m args below meth c H locs ls C c1 c2 hP hS hl => by
    refine V_run (va_runSN (As := As.map (cv G)) ⟨C.1, C.2.1, C.2.2.2.1, C.own, C.2.2.2.2.2.1⟩ hM ⟨va_cnB n C.2.2.2.2.2.1 (ws_in cw.1) rfl rfl rfl (C.kt.2 _ hw.1) (C.ts cw.2.1) cw.2.2.1 ⟨hdd.1, lo_step hdd.1 hdd.2 cw.2.2.2⟩, C.ts hw.2, trivial⟩ ⟨pc_blind G _ h, fun U hU hW => U_pre (a := As) hP C.kt C.ro C.nb hS hU hW⟩ rfl (by rw [List.length_map]; exact hn) hl.1 ?_ ?_ hd hf) hS (fun r h' H1 locs1 hq hp hs => kk r h' hq p e s m args below meth c H1 locs1 ls C hf.1 hf.2 hp hs hl)
    · show S0.map (cv G) = _
      rw [hst, List.map_append, List.map_reverse]
    · refine lv_room ?_
      rw [List.map_map]
      exact Nat.le_trans (Nat.le_of_eq (congrArg List.sum (List.map_congr_left (fun v _ => cv_cat G v)))) hrm
/-- fewer locals; the same by another name -/
theorem V_eq {b : bg} {pc2 : Nat} {L2 : List (Option Value)} {S2 : List Value} {h2 : ah} (h1 : pc = pc2) (hL : L = L2) (hS : S = S2) (hh : h = h2) (k : V G y b pc2 L2 S2 h2 Q) : V G y b pc L S h Q := by
  subst h1; subst hL; subst hS; subst hh; exact k
def sb : List (Option Value) → List (Option Value) → Prop
  | [], _ => True
  | none :: r, s => sb r s.tail
  | some v :: r, s => s.head? = some (some v) ∧ sb r s.tail
theorem lq_sb (G : gx) : ∀ (L' L : List (Option Value)) (j : Nat) (q : Nat × Value), sb L' L → q ∈ lq G j L' → q ∈ lq G j L
  | [], _, _, _, _, h => by simp [lq] at h
  | none :: r, L, j, q, hs, h => lq_tail G (lq_sb G r L.tail (j + 1) q hs h)
  | some v :: r, L, j, q, hs, h => by
    match L, hs with
    | [], hs => cases hs.1
    | x :: s, hs =>
      have hx : x = some v := by have := hs.1; simpa using this
      subst hx
      rcases List.mem_cons.mp (show q ∈ (j, cv G v) :: lq G (j + 1) r from h) with rfl | h
      · exact List.mem_cons_self
      · exact List.mem_cons_of_mem _ (lq_sb G r s (j + 1) q hs.2 h)
theorem V_sub {b : bg} {L' : List (Option Value)} (hs : sb L' L) (k : V G y b pc L' S h Q) : V G y b pc L S h Q :=
  fun p e s m args below meth c H locs ls C c1 c2 hP hS hl => k p e s m args below meth c H locs ls C c1 c2 hP hS ⟨hl.1, hl.2.1, fun q hq => hl.2.2 q (lq_sb G L' L 0 q hs hq)⟩
theorem V_mono {b : bg} {Q2 : Option Value → ah → Prop} (hq : ∀ r h', Q r h' → Q2 r h') (k : V G y b pc L S h Q) : V G y b pc L S h Q2 :=
  fun p e s m args below meth c H locs ls C c1 c2 hP hS hl T hT X => by
    obtain ⟨t, a1, o, b1, b2, ⟨⟨r, h', e1, e2, e3⟩, hF⟩, hL⟩ := k p e s m args below meth c H locs ls C c1 c2 hP hS hl T hT X
    exact ⟨t, a1, o, b1, b2, ⟨⟨r, h', e1, hq _ _ e2, e3⟩, hF⟩, hL⟩
end CR
end
section
/-! the words by their places in the tables -/
theorem tb_in {w : Cond} (h : w ∈ tables_1) (hg : goodWord w = true) : w ∈ gw := gw_in (List.mem_append_right _ h) hg
theorem tb_nw {w : Cond} (h : w ∈ tables_1) (hg : is_N w = true) : w ∈ nw := nw_in (List.mem_append_right _ h) hg
theorem tb_sel {w : Cond} (h : w ∈ k2_sels lw_privs) (hg : goodWord w = true) : w ∈ gw := gw_in (List.mem_append_left _ h) hg
theorem km_X7_1 : Cond.methodLink RX7 1 objectInit ∈ gw := tb_in (List.mem_of_getElem? (i := 19) (by decide +kernel)) rfl
theorem kc_X7_7 : Cond.classLink RX7 7 RX6 ∈ gw := tb_in (List.mem_of_getElem? (i := 22) (by decide +kernel)) rfl
theorem km_X7_9 : Cond.methodLinkNest RX7 9 yX6_init "WordWheel" ∈ nw := tb_nw (List.mem_of_getElem? (i := 24) (by decide +kernel)) rfl
theorem kf_X7_10 : Cond.fieldLink RX7 10 "WordWheel" "words" "LWordWheel$Words;" ∈ gw := tb_in (List.mem_of_getElem? (i := 248) (by decide +kernel)) rfl
theorem kc_X7_16 : Cond.classLink RX7 16 RX3 ∈ gw := tb_in (List.mem_of_getElem? (i := 67) (by decide +kernel)) rfl
theorem km_X7_18 : Cond.methodLinkNest RX7 18 yX3_init "WordWheel" ∈ nw := tb_nw (List.mem_of_getElem? (i := 69) (by decide +kernel)) rfl
theorem kf_X7_21 : Cond.fieldLink RX7 21 "WordWheel" "counter" "LWordWheel$RingCounter;" ∈ gw := tb_in (List.mem_of_getElem? (i := 249) (by decide +kernel)) rfl
theorem kc_X7_25 : Cond.classLink RX7 25 RX2 ∈ gw := tb_in (List.mem_of_getElem? (i := 86) (by decide +kernel)) rfl
theorem km_X7_27 : Cond.methodLinkNest RX7 27 yX2_init "WordWheel" ∈ nw := tb_nw (List.mem_of_getElem? (i := 88) (by decide +kernel)) rfl
theorem kf_X7_28 : Cond.fieldLink RX7 28 "WordWheel" "register" "LWordWheel$Register;" ∈ gw := tb_in (List.mem_of_getElem? (i := 250) (by decide +kernel)) rfl
theorem kc_X7_32 : Cond.classLink RX7 32 RX4 ∈ gw := tb_in (List.mem_of_getElem? (i := 147) (by decide +kernel)) rfl
theorem km_X7_34 : Cond.methodLinkNest RX7 34 yX4_init "WordWheel" ∈ nw := tb_nw (List.mem_of_getElem? (i := 149) (by decide +kernel)) rfl
theorem kf_X7_35 : Cond.fieldLink RX7 35 "WordWheel" "theRound" "LWordWheel$Round;" ∈ gw := tb_in (List.mem_of_getElem? (i := 251) (by decide +kernel)) rfl
theorem kc_X7_39 : Cond.classLink RX7 39 RX5 ∈ gw := tb_in (List.mem_of_getElem? (i := 184) (by decide +kernel)) rfl
theorem kf_X7_41 : Cond.fieldLink RX7 41 "WordWheel" "tapes" "[LWordWheel$Tape;" ∈ gw := tb_in (List.mem_of_getElem? (i := 252) (by decide +kernel)) rfl
theorem km_X7_45 : Cond.methodLinkNest RX7 45 yX5_init "WordWheel" ∈ nw := tb_nw (List.mem_of_getElem? (i := 187) (by decide +kernel)) rfl
theorem kc_X7_46 : Cond.classLink RX7 46 RX0 ∈ gw := tb_in (List.mem_of_getElem? (i := 210) (by decide +kernel)) rfl
theorem km_X7_48 : Cond.methodLinkNest RX7 48 yX0_init "WordWheel" ∈ nw := tb_nw (List.mem_of_getElem? (i := 212) (by decide +kernel)) rfl
theorem kf_X7_49 : Cond.fieldLink RX7 49 "WordWheel" "parting" "LWordWheel$Parting;" ∈ gw := tb_in (List.mem_of_getElem? (i := 253) (by decide +kernel)) rfl
theorem kc_X7_53 : Cond.classLink RX7 53 RX1 ∈ gw := tb_in (List.mem_of_getElem? (i := 225) (by decide +kernel)) rfl
theorem km_X7_55 : Cond.methodLinkNest RX7 55 yX1_init "WordWheel" ∈ nw := tb_nw (List.mem_of_getElem? (i := 227) (by decide +kernel)) rfl
theorem kf_X7_56 : Cond.fieldLink RX7 56 "WordWheel" "recurring" "LWordWheel$Recurring;" ∈ gw := tb_in (List.mem_of_getElem? (i := 254) (by decide +kernel)) rfl
theorem kf_X7_60 : Cond.fieldLink RX7 60 "WordWheel" "firstFound" "I" ∈ gw := tb_in (List.mem_of_getElem? (i := 255) (by decide +kernel)) rfl
theorem kf_X7_64 : Cond.fieldLink RX7 64 "WordWheel" "latestFinding" "I" ∈ gw := tb_in (List.mem_of_getElem? (i := 256) (by decide +kernel)) rfl
theorem km_X7_67 : Cond.methodLinkNest RX7 67 yX6_howMany "WordWheel" ∈ nw := tb_nw (List.mem_of_getElem? (i := 280) (by decide +kernel)) rfl
theorem km_X7_71 : Cond.methodLinkNest RX7 71 yX6_become "WordWheel" ∈ nw := tb_nw (List.mem_of_getElem? (i := 283) (by decide +kernel)) rfl
theorem km_X7_75 : Cond.methodLinkNest RX7 75 yX2_becomeTurning "WordWheel" ∈ nw := tb_nw (List.mem_of_getElem? (i := 284) (by decide +kernel)) rfl
theorem km_X7_78 : Cond.methodLinkNest RX7 78 yX4_drop "WordWheel" ∈ nw := tb_nw (List.mem_of_getElem? (i := 285) (by decide +kernel)) rfl
theorem km_X7_81 : Cond.methodLinkNest RX7 81 yX6_has "WordWheel" ∈ nw := tb_nw (List.mem_of_getElem? (i := 293) (by decide +kernel)) rfl
theorem km_X7_85 : Cond.methodLinkNest RX7 85 yX6_turned "WordWheel" ∈ nw := tb_nw (List.mem_of_getElem? (i := 297) (by decide +kernel)) rfl
theorem km_X7_88 : Cond.methodLinkNest RX7 88 yX6_leastOf "WordWheel" ∈ nw := tb_nw (List.mem_of_getElem? (i := 305) (by decide +kernel)) rfl
theorem km_X7_92 : Cond.methodLinkNest RX7 92 yX6_stepsToLeast "WordWheel" ∈ nw := tb_nw (List.mem_of_getElem? (i := 320) (by decide +kernel)) rfl
theorem km_X7_95 : Cond.methodLinkNest RX7 95 yX6_ringSize "WordWheel" ∈ nw := tb_nw (List.mem_of_getElem? (i := 328) (by decide +kernel)) rfl
theorem km_X7_98 : Cond.methodLinkNest RX7 98 yX6_backward "WordWheel" ∈ nw := tb_nw (List.mem_of_getElem? (i := 336) (by decide +kernel)) rfl
theorem kf_X7_101 : Cond.fieldLinkNest RX7 101 "WordWheel$Words" "all" "I" "WordWheel" ∈ nw := tb_nw (List.mem_of_getElem? (i := 50) (by decide +kernel)) rfl
theorem km_X7_104 : Cond.methodLinkNest RX7 104 yX3_ringsUpTo "WordWheel" ∈ nw := tb_nw (List.mem_of_getElem? (i := 344) (by decide +kernel)) rfl
theorem km_X7_107 : Cond.methodLink RX7 107 yX7_rings ∈ gw := tb_in (List.mem_of_getElem? (i := 388) (by decide +kernel)) rfl
theorem km_X7_111 : Cond.methodLinkNest RX7 111 yX3_leastOfRing "WordWheel" ∈ nw := tb_nw (List.mem_of_getElem? (i := 389) (by decide +kernel)) rfl
theorem kf_X7_114 : Cond.fieldLinkNest RX7 114 "WordWheel$Words" "length" "I" "WordWheel" ∈ nw := tb_nw (List.mem_of_getElem? (i := 46) (by decide +kernel)) rfl
theorem km_X7_117 : Cond.methodLinkNest RX7 117 yX3_wordsUpTo "WordWheel" ∈ nw := tb_nw (List.mem_of_getElem? (i := 398) (by decide +kernel)) rfl
theorem km_X7_120 : Cond.methodLinkNest RX7 120 yX3_takeAmounts "WordWheel" ∈ nw := tb_nw (List.mem_of_getElem? (i := 403) (by decide +kernel)) rfl
theorem km_X7_124 : Cond.methodLinkNest RX7 124 yX3_ringsOfAmounts "WordWheel" ∈ nw := tb_nw (List.mem_of_getElem? (i := 411) (by decide +kernel)) rfl
theorem km_X7_127 : Cond.methodLinkNest RX7 127 yX6_isLetter "WordWheel" ∈ nw := tb_nw (List.mem_of_getElem? (i := 427) (by decide +kernel)) rfl
theorem km_X7_130 : Cond.methodLinkNest RX7 130 yX2_changeFactor "WordWheel" ∈ nw := tb_nw (List.mem_of_getElem? (i := 428) (by decide +kernel)) rfl
theorem km_X7_133 : Cond.methodLinkNest RX7 133 yX2_changeSum "WordWheel" ∈ nw := tb_nw (List.mem_of_getElem? (i := 436) (by decide +kernel)) rfl
theorem km_X7_136 : Cond.methodLinkNest RX7 136 yX2_leadOf "WordWheel" ∈ nw := tb_nw (List.mem_of_getElem? (i := 444) (by decide +kernel)) rfl
theorem km_X7_139 : Cond.methodLinkNest RX7 139 yX2_isRight "WordWheel" ∈ nw := tb_nw (List.mem_of_getElem? (i := 460) (by decide +kernel)) rfl
theorem km_X7_143 : Cond.methodLinkNest RX7 143 yX6_differInFirst "WordWheel" ∈ nw := tb_nw (List.mem_of_getElem? (i := 468) (by decide +kernel)) rfl
theorem km_X7_147 : Cond.methodLinkNest RX7 147 yX2_isFull "WordWheel" ∈ nw := tb_nw (List.mem_of_getElem? (i := 472) (by decide +kernel)) rfl
theorem km_X7_150 : Cond.methodLinkNest RX7 150 yX2_makeExchange "WordWheel" ∈ nw := tb_nw (List.mem_of_getElem? (i := 476) (by decide +kernel)) rfl
theorem kf_X7_153 : Cond.fieldLinkNest RX7 153 "WordWheel$Register" "exchanges" "I" "WordWheel" ∈ nw := tb_nw (List.mem_of_getElem? (i := 109) (by decide +kernel)) rfl
theorem km_X7_156 : Cond.methodLinkNest RX7 156 yX2_takeBack "WordWheel" ∈ nw := tb_nw (List.mem_of_getElem? (i := 513) (by decide +kernel)) rfl
theorem km_X7_159 : Cond.methodLinkNest RX7 159 yX2_howManyCycles "WordWheel" ∈ nw := tb_nw (List.mem_of_getElem? (i := 521) (by decide +kernel)) rfl
theorem km_X7_162 : Cond.methodLinkNest RX7 162 yX2_numberOfCycle "WordWheel" ∈ nw := tb_nw (List.mem_of_getElem? (i := 526) (by decide +kernel)) rfl
theorem km_X7_165 : Cond.methodLinkNest RX7 165 yX2_leastOfCycle "WordWheel" ∈ nw := tb_nw (List.mem_of_getElem? (i := 534) (by decide +kernel)) rfl
theorem km_X7_168 : Cond.methodLinkNest RX7 168 yX2_wordsOfCycle "WordWheel" ∈ nw := tb_nw (List.mem_of_getElem? (i := 538) (by decide +kernel)) rfl
theorem km_X7_171 : Cond.methodLinkNest RX7 171 yX2_joinCycles "WordWheel" ∈ nw := tb_nw (List.mem_of_getElem? (i := 546) (by decide +kernel)) rfl
theorem km_X7_174 : Cond.methodLinkNest RX7 174 yX4_becomeLeast "WordWheel" ∈ nw := tb_nw (List.mem_of_getElem? (i := 558) (by decide +kernel)) rfl
theorem km_X7_177 : Cond.methodLinkNest RX7 177 yX4_becomeGreedy "WordWheel" ∈ nw := tb_nw (List.mem_of_getElem? (i := 571) (by decide +kernel)) rfl
theorem km_X7_180 : Cond.methodLinkNest RX7 180 yX2_leads "WordWheel" ∈ nw := tb_nw (List.mem_of_getElem? (i := 583) (by decide +kernel)) rfl
theorem km_X7_184 : Cond.methodLinkNest RX7 184 yX4_becomeCycle "WordWheel" ∈ nw := tb_nw (List.mem_of_getElem? (i := 584) (by decide +kernel)) rfl
theorem km_X7_188 : Cond.methodLinkNest RX7 188 yX4_isPlace "WordWheel" ∈ nw := tb_nw (List.mem_of_getElem? (i := 592) (by decide +kernel)) rfl
theorem kf_X7_191 : Cond.fieldLinkNest RX7 191 "WordWheel$Round" "letters" "[B" "WordWheel" ∈ nw := tb_nw (List.mem_of_getElem? (i := 155) (by decide +kernel)) rfl
theorem km_X7_195 : Cond.methodLinkNest RX7 195 yX4_isThere "WordWheel" ∈ nw := tb_nw (List.mem_of_getElem? (i := 605) (by decide +kernel)) rfl
theorem kf_X7_198 : Cond.fieldLinkNest RX7 198 "WordWheel$Round" "places" "[I" "WordWheel" ∈ nw := tb_nw (List.mem_of_getElem? (i := 157) (by decide +kernel)) rfl
theorem km_X7_202 : Cond.methodLink RX7 202 yX7_isTape ∈ gw := tb_in (List.mem_of_getElem? (i := 614) (by decide +kernel)) rfl
theorem km_X7_205 : Cond.methodLink RX7 205 yX7_isForm ∈ gw := tb_in (List.mem_of_getElem? (i := 617) (by decide +kernel)) rfl
theorem km_X7_208 : Cond.methodLink RX7 208 yX7_finding ∈ gw := tb_in (List.mem_of_getElem? (i := 620) (by decide +kernel)) rfl
theorem km_X7_211 : Cond.methodLinkNest RX7 211 yX5_begin "WordWheel" ∈ nw := tb_nw (List.mem_of_getElem? (i := 624) (by decide +kernel)) rfl
theorem km_X7_214 : Cond.methodLinkNest RX7 214 yX5_isLost "WordWheel" ∈ nw := tb_nw (List.mem_of_getElem? (i := 633) (by decide +kernel)) rfl
theorem km_X7_217 : Cond.methodLinkNest RX7 217 yX5_drop "WordWheel" ∈ nw := tb_nw (List.mem_of_getElem? (i := 637) (by decide +kernel)) rfl
theorem km_X7_219 : Cond.methodLink RX7 219 yX7_faultOfItem ∈ gw := tb_in (List.mem_of_getElem? (i := 645) (by decide +kernel)) rfl
theorem kf_X7_223 : Cond.fieldLinkNest RX7 223 "WordWheel$Tape" "items" "[I" "WordWheel" ∈ nw := tb_nw (List.mem_of_getElem? (i := 193) (by decide +kernel)) rfl
theorem km_X7_226 : Cond.methodLinkNest RX7 226 yX5_fitted "WordWheel" ∈ nw := tb_nw (List.mem_of_getElem? (i := 652) (by decide +kernel)) rfl
theorem kk_X7_231 : Cond.constant RX7 231 (-2147483648) ∈ gw := tb_in (List.mem_of_getElem? (i := 660) (by decide +kernel)) rfl
theorem kf_X7_232 : Cond.fieldLinkNest RX7 232 "WordWheel$Tape" "form" "I" "WordWheel" ∈ nw := tb_nw (List.mem_of_getElem? (i := 195) (by decide +kernel)) rfl
theorem km_X7_235 : Cond.methodLinkNest RX7 235 yX5_hasItems "WordWheel" ∈ nw := tb_nw (List.mem_of_getElem? (i := 648) (by decide +kernel)) rfl
theorem km_X7_238 : Cond.methodLink RX7 238 arraycopyName ∈ gw := tb_in (List.mem_of_getElem? (i := 665) (by decide +kernel)) rfl
theorem km_X7_244 : Cond.methodLinkNest RX7 244 yX4_writeLetters "WordWheel" ∈ nw := tb_nw (List.mem_of_getElem? (i := 672) (by decide +kernel)) rfl
theorem km_X7_248 : Cond.methodLinkNest RX7 248 yX4_countMatches "WordWheel" ∈ nw := tb_nw (List.mem_of_getElem? (i := 680) (by decide +kernel)) rfl
theorem kf_X7_252 : Cond.fieldLinkNest RX7 252 "WordWheel$Round" "firstMatch" "I" "WordWheel" ∈ nw := tb_nw (List.mem_of_getElem? (i := 164) (by decide +kernel)) rfl
theorem kf_X7_255 : Cond.fieldLinkNest RX7 255 "WordWheel$Tape" "length" "I" "WordWheel" ∈ nw := tb_nw (List.mem_of_getElem? (i := 197) (by decide +kernel)) rfl
theorem km_X7_256 : Cond.methodLinkNest RX7 256 yX5_hasBlanks "WordWheel" ∈ nw := tb_nw (List.mem_of_getElem? (i := 710) (by decide +kernel)) rfl
theorem km_X7_259 : Cond.methodLinkNest RX7 259 yX5_firstRepeated "WordWheel" ∈ nw := tb_nw (List.mem_of_getElem? (i := 715) (by decide +kernel)) rfl
theorem km_X7_262 : Cond.methodLinkNest RX7 262 yX0_divide "WordWheel" ∈ nw := tb_nw (List.mem_of_getElem? (i := 727) (by decide +kernel)) rfl
theorem kf_X7_266 : Cond.fieldLinkNest RX7 266 "WordWheel$Parting" "told" "I" "WordWheel" ∈ nw := tb_nw (List.mem_of_getElem? (i := 219) (by decide +kernel)) rfl
theorem kf_X7_269 : Cond.fieldLinkNest RX7 269 "WordWheel$Parting" "begins" "[I" "WordWheel" ∈ nw := tb_nw (List.mem_of_getElem? (i := 217) (by decide +kernel)) rfl
theorem kf_X7_272 : Cond.fieldLinkNest RX7 272 "WordWheel$Words" "letters" "I" "WordWheel" ∈ nw := tb_nw (List.mem_of_getElem? (i := 40) (by decide +kernel)) rfl
theorem km_X7_274 : Cond.methodLinkNest RX7 274 yX1_learn "WordWheel" ∈ nw := tb_nw (List.mem_of_getElem? (i := 739) (by decide +kernel)) rfl
theorem kf_X7_278 : Cond.fieldLinkNest RX7 278 "WordWheel$Recurring" "length" "I" "WordWheel" ∈ nw := tb_nw (List.mem_of_getElem? (i := 235) (by decide +kernel)) rfl
theorem km_X7_279 : Cond.methodLinkNest RX7 279 yX1_coefficientAt "WordWheel" ∈ nw := tb_nw (List.mem_of_getElem? (i := 769) (by decide +kernel)) rfl
theorem kf_X7_282 : Cond.fieldLinkNest RX7 282 "WordWheel$Round" "kind" "I" "WordWheel" ∈ nw := tb_nw (List.mem_of_getElem? (i := 159) (by decide +kernel)) rfl
theorem kk_X7_285 : Cond.constantLong RX7 285 (17) ∈ gw := tb_in (List.mem_of_getElem? (i := 781) (by decide +kernel)) rfl
theorem kk_X7_287 : Cond.constantLong RX7 287 (31) ∈ gw := tb_in (List.mem_of_getElem? (i := 782) (by decide +kernel)) rfl
theorem km_X7_289 : Cond.methodLink RX7 289 yX7_count ∈ gw := tb_in (List.mem_of_getElem? (i := 783) (by decide +kernel)) rfl
theorem km_X0_3 : Cond.methodLink RX0 3 objectInit ∈ gw := tb_in (List.mem_of_getElem? (i := 215) (by decide +kernel)) rfl
theorem kf_X0_9 : Cond.fieldLink RX0 9 "WordWheel$Parting" "begins" "[I" ∈ gw := tb_in (List.mem_of_getElem? (i := 216) (by decide +kernel)) rfl
theorem kf_X0_15 : Cond.fieldLink RX0 15 "WordWheel$Parting" "told" "I" ∈ gw := tb_in (List.mem_of_getElem? (i := 218) (by decide +kernel)) rfl
theorem km_X1_3 : Cond.methodLink RX1 3 objectInit ∈ gw := tb_in (List.mem_of_getElem? (i := 230) (by decide +kernel)) rfl
theorem kf_X1_9 : Cond.fieldLink RX1 9 "WordWheel$Recurring" "now" "[I" ∈ gw := tb_in (List.mem_of_getElem? (i := 231) (by decide +kernel)) rfl
theorem kf_X1_15 : Cond.fieldLink RX1 15 "WordWheel$Recurring" "earlier" "[I" ∈ gw := tb_in (List.mem_of_getElem? (i := 232) (by decide +kernel)) rfl
theorem kf_X1_18 : Cond.fieldLink RX1 18 "WordWheel$Recurring" "spare" "[I" ∈ gw := tb_in (List.mem_of_getElem? (i := 233) (by decide +kernel)) rfl
theorem kf_X1_21 : Cond.fieldLink RX1 21 "WordWheel$Recurring" "modulus" "I" ∈ gw := tb_in (List.mem_of_getElem? (i := 236) (by decide +kernel)) rfl
theorem kf_X1_25 : Cond.fieldLink RX1 25 "WordWheel$Recurring" "length" "I" ∈ gw := tb_in (List.mem_of_getElem? (i := 234) (by decide +kernel)) rfl
theorem km_X1_28 : Cond.methodLink RX1 28 yJ7_fill_53178 ∈ gw := tb_in (List.mem_of_getElem? (i := 743) (by decide +kernel)) rfl
theorem km_X1_34 : Cond.methodLink RX1 34 yX1_gapAt ∈ gw := tb_in (List.mem_of_getElem? (i := 744) (by decide +kernel)) rfl
theorem km_X1_38 : Cond.methodLink RX1 38 yX1_inverse ∈ gw := tb_in (List.mem_of_getElem? (i := 748) (by decide +kernel)) rfl
theorem km_X1_42 : Cond.methodLink RX1 42 yX1_lengthen ∈ gw := tb_in (List.mem_of_getElem? (i := 752) (by decide +kernel)) rfl
theorem km_X1_46 : Cond.methodLink RX1 46 yX1_subtractEarlier ∈ gw := tb_in (List.mem_of_getElem? (i := 757) (by decide +kernel)) rfl
theorem km_X1_50 : Cond.methodLink RX1 50 yX1_lowerNumbers ∈ gw := tb_in (List.mem_of_getElem? (i := 761) (by decide +kernel)) rfl
theorem km_X1_53 : Cond.methodLink RX1 53 arraycopyName ∈ gw := tb_in (List.mem_of_getElem? (i := 756) (by decide +kernel)) rfl
theorem km_X2_3 : Cond.methodLink RX2 3 objectInit ∈ gw := tb_in (List.mem_of_getElem? (i := 91) (by decide +kernel)) rfl
theorem kf_X2_9 : Cond.fieldLink RX2 9 "WordWheel$Register" "factors" "[I" ∈ gw := tb_in (List.mem_of_getElem? (i := 104) (by decide +kernel)) rfl
theorem kf_X2_15 : Cond.fieldLink RX2 15 "WordWheel$Register" "ones" "[I" ∈ gw := tb_in (List.mem_of_getElem? (i := 106) (by decide +kernel)) rfl
theorem kf_X2_18 : Cond.fieldLink RX2 18 "WordWheel$Register" "others" "[I" ∈ gw := tb_in (List.mem_of_getElem? (i := 107) (by decide +kernel)) rfl
theorem kf_X2_21 : Cond.fieldLink RX2 21 "WordWheel$Register" "lead" "[I" ∈ gw := tb_in (List.mem_of_getElem? (i := 110) (by decide +kernel)) rfl
theorem kf_X2_24 : Cond.fieldLink RX2 24 "WordWheel$Register" "cycleNumber" "[I" ∈ gw := tb_in (List.mem_of_getElem? (i := 112) (by decide +kernel)) rfl
theorem kf_X2_27 : Cond.fieldLink RX2 27 "WordWheel$Register" "leastWord" "[I" ∈ gw := tb_in (List.mem_of_getElem? (i := 113) (by decide +kernel)) rfl
theorem kf_X2_30 : Cond.fieldLink RX2 30 "WordWheel$Register" "joined" "[I" ∈ gw := tb_in (List.mem_of_getElem? (i := 117) (by decide +kernel)) rfl
theorem kf_X2_33 : Cond.fieldLink RX2 33 "WordWheel$Register" "words" "LWordWheel$Words;" ∈ gw := tb_in (List.mem_of_getElem? (i := 103) (by decide +kernel)) rfl
theorem km_X2_37 : Cond.methodLink RX2 37 yX2_becomeTurning ∈ gw := tb_in (List.mem_of_getElem? (i := 92) (by decide +kernel)) rfl
theorem km_X2_40 : Cond.methodLink RX2 40 yJ7_fill_53178 ∈ gw := tb_in (List.mem_of_getElem? (i := 96) (by decide +kernel)) rfl
theorem kf_X2_46 : Cond.fieldLink RX2 46 "WordWheel$Register" "addend" "I" ∈ gw := tb_in (List.mem_of_getElem? (i := 105) (by decide +kernel)) rfl
theorem km_X2_50 : Cond.methodLink RX2 50 yX2_forgetExchanges ∈ gw := tb_in (List.mem_of_getElem? (i := 99) (by decide +kernel)) rfl
theorem kf_X2_53 : Cond.fieldLink RX2 53 "WordWheel$Register" "exchanges" "I" ∈ gw := tb_in (List.mem_of_getElem? (i := 108) (by decide +kernel)) rfl
theorem kf_X2_56 : Cond.fieldLink RX2 56 "WordWheel$Register" "leadsStand" "Z" ∈ gw := tb_in (List.mem_of_getElem? (i := 111) (by decide +kernel)) rfl
theorem kf_X2_60 : Cond.fieldLink RX2 60 "WordWheel$Register" "numbersStand" "Z" ∈ gw := tb_in (List.mem_of_getElem? (i := 114) (by decide +kernel)) rfl
theorem kf_X2_63 : Cond.fieldLink RX2 63 "WordWheel$Register" "countStands" "Z" ∈ gw := tb_in (List.mem_of_getElem? (i := 116) (by decide +kernel)) rfl
theorem kf_X2_66 : Cond.fieldLinkNest RX2 66 "WordWheel$Words" "letters" "I" "WordWheel" ∈ nw := tb_nw (List.mem_of_getElem? (i := 37) (by decide +kernel)) rfl
theorem km_X2_71 : Cond.methodLink RX2 71 yX2_leads ∈ gw := tb_in (List.mem_of_getElem? (i := 448) (by decide +kernel)) rfl
theorem km_X2_75 : Cond.methodLink RX2 75 yX2_fillComing ∈ gw := tb_in (List.mem_of_getElem? (i := 452) (by decide +kernel)) rfl
theorem kf_X2_78 : Cond.fieldLinkNest RX2 78 "WordWheel$Words" "all" "I" "WordWheel" ∈ nw := tb_nw (List.mem_of_getElem? (i := 51) (by decide +kernel)) rfl
theorem kf_X2_81 : Cond.fieldLinkNest RX2 81 "WordWheel$Words" "high" "I" "WordWheel" ∈ nw := tb_nw (List.mem_of_getElem? (i := 54) (by decide +kernel)) rfl
theorem kf_X2_84 : Cond.fieldLinkNest RX2 84 "WordWheel$Words" "length" "I" "WordWheel" ∈ nw := tb_nw (List.mem_of_getElem? (i := 45) (by decide +kernel)) rfl
theorem kf_X2_87 : Cond.fieldLinkNest RX2 87 "WordWheel$Words" "power" "[I" "WordWheel" ∈ nw := tb_nw (List.mem_of_getElem? (i := 34) (by decide +kernel)) rfl
theorem km_X2_90 : Cond.methodLink RX2 90 yJ7_fill_fda19 ∈ gw := tb_in (List.mem_of_getElem? (i := 492) (by decide +kernel)) rfl
theorem kf_X2_93 : Cond.fieldLink RX2 93 "WordWheel$Register" "cycleCount" "I" ∈ gw := tb_in (List.mem_of_getElem? (i := 115) (by decide +kernel)) rfl
theorem km_X2_96 : Cond.methodLink RX2 96 yX2_markCycle ∈ gw := tb_in (List.mem_of_getElem? (i := 493) (by decide +kernel)) rfl
theorem km_X2_100 : Cond.methodLink RX2 100 yX2_numberCycles ∈ gw := tb_in (List.mem_of_getElem? (i := 488) (by decide +kernel)) rfl
theorem km_X2_103 : Cond.methodLink RX2 103 yX2_countBehindExchange ∈ gw := tb_in (List.mem_of_getElem? (i := 480) (by decide +kernel)) rfl
theorem km_X2_107 : Cond.methodLink RX2 107 yX2_swapLeads ∈ gw := tb_in (List.mem_of_getElem? (i := 501) (by decide +kernel)) rfl
theorem km_X2_110 : Cond.methodLink RX2 110 yX2_noteExchange ∈ gw := tb_in (List.mem_of_getElem? (i := 505) (by decide +kernel)) rfl
theorem km_X2_113 : Cond.methodLink RX2 113 yX2_howManyCycles ∈ gw := tb_in (List.mem_of_getElem? (i := 484) (by decide +kernel)) rfl
theorem km_X2_117 : Cond.methodLink RX2 117 yX2_inOneCycle ∈ gw := tb_in (List.mem_of_getElem? (i := 497) (by decide +kernel)) rfl
theorem km_X2_121 : Cond.methodLink RX2 121 yX2_joinAt ∈ gw := tb_in (List.mem_of_getElem? (i := 550) (by decide +kernel)) rfl
theorem km_X3_3 : Cond.methodLink RX3 3 objectInit ∈ gw := tb_in (List.mem_of_getElem? (i := 72) (by decide +kernel)) rfl
theorem kf_X3_9 : Cond.fieldLink RX3 9 "WordWheel$RingCounter" "row" "[I" ∈ gw := tb_in (List.mem_of_getElem? (i := 74) (by decide +kernel)) rfl
theorem kf_X3_15 : Cond.fieldLink RX3 15 "WordWheel$RingCounter" "pathways" "[I" ∈ gw := tb_in (List.mem_of_getElem? (i := 75) (by decide +kernel)) rfl
theorem kf_X3_18 : Cond.fieldLink RX3 18 "WordWheel$RingCounter" "amounts" "[I" ∈ gw := tb_in (List.mem_of_getElem? (i := 76) (by decide +kernel)) rfl
theorem kf_X3_21 : Cond.fieldLink RX3 21 "WordWheel$RingCounter" "words" "LWordWheel$Words;" ∈ gw := tb_in (List.mem_of_getElem? (i := 73) (by decide +kernel)) rfl
theorem kf_X3_25 : Cond.fieldLinkNest RX3 25 "WordWheel$Words" "length" "I" "WordWheel" ∈ nw := tb_nw (List.mem_of_getElem? (i := 41) (by decide +kernel)) rfl
theorem kf_X3_31 : Cond.fieldLink RX3 31 "WordWheel$RingCounter" "TOTIENT" "[I" ∈ gw := tb_in (List.mem_of_getElem? (i := 348) (by decide +kernel)) rfl
theorem km_X3_34 : Cond.methodLink RX3 34 yX3_greatestRepeated ∈ gw := tb_in (List.mem_of_getElem? (i := 350) (by decide +kernel)) rfl
theorem km_X3_38 : Cond.methodLink RX3 38 yX3_wordsUpTo ∈ gw := tb_in (List.mem_of_getElem? (i := 354) (by decide +kernel)) rfl
theorem kf_X3_41 : Cond.fieldLinkNest RX3 41 "WordWheel$Words" "power" "[I" "WordWheel" ∈ nw := tb_nw (List.mem_of_getElem? (i := 33) (by decide +kernel)) rfl
theorem kf_X3_44 : Cond.fieldLinkNest RX3 44 "WordWheel$Words" "all" "I" "WordWheel" ∈ nw := tb_nw (List.mem_of_getElem? (i := 48) (by decide +kernel)) rfl
theorem km_X3_47 : Cond.methodLink RX3 47 yX3_ringsUpTo ∈ gw := tb_in (List.mem_of_getElem? (i := 393) (by decide +kernel)) rfl
theorem kf_X3_51 : Cond.fieldLinkNest RX3 51 "WordWheel$Words" "letters" "I" "WordWheel" ∈ nw := tb_nw (List.mem_of_getElem? (i := 36) (by decide +kernel)) rfl
theorem km_X3_54 : Cond.methodLink RX3 54 yX3_lowerToBeginning ∈ gw := tb_in (List.mem_of_getElem? (i := 358) (by decide +kernel)) rfl
theorem km_X3_58 : Cond.methodLink RX3 58 yX3_wordsAboveRow ∈ gw := tb_in (List.mem_of_getElem? (i := 372) (by decide +kernel)) rfl
theorem km_X3_61 : Cond.methodLink RX3 61 yX3_firstFault ∈ gw := tb_in (List.mem_of_getElem? (i := 362) (by decide +kernel)) rfl
theorem km_X3_64 : Cond.methodLink RX3 64 yJ7_fill_fda19 ∈ gw := tb_in (List.mem_of_getElem? (i := 366) (by decide +kernel)) rfl
theorem km_X3_70 : Cond.methodLink RX3 70 yX3_greaterThan ∈ gw := tb_in (List.mem_of_getElem? (i := 376) (by decide +kernel)) rfl
theorem km_X3_73 : Cond.methodLinkNest RX3 73 yX6_isLetter "WordWheel" ∈ nw := tb_nw (List.mem_of_getElem? (i := 407) (by decide +kernel)) rfl
theorem km_X3_77 : Cond.methodLink RX3 77 yX3_allDivisible ∈ gw := tb_in (List.mem_of_getElem? (i := 415) (by decide +kernel)) rfl
theorem km_X3_80 : Cond.methodLink RX3 80 yX3_arrangements ∈ gw := tb_in (List.mem_of_getElem? (i := 419) (by decide +kernel)) rfl
theorem km_X4_3 : Cond.methodLink RX4 3 objectInit ∈ gw := tb_in (List.mem_of_getElem? (i := 152) (by decide +kernel)) rfl
theorem kf_X4_9 : Cond.fieldLink RX4 9 "WordWheel$Round" "letters" "[B" ∈ gw := tb_in (List.mem_of_getElem? (i := 154) (by decide +kernel)) rfl
theorem kf_X4_15 : Cond.fieldLink RX4 15 "WordWheel$Round" "places" "[I" ∈ gw := tb_in (List.mem_of_getElem? (i := 156) (by decide +kernel)) rfl
theorem kf_X4_19 : Cond.fieldLink RX4 19 "WordWheel$Round" "kind" "I" ∈ gw := tb_in (List.mem_of_getElem? (i := 158) (by decide +kernel)) rfl
theorem kf_X4_23 : Cond.fieldLink RX4 23 "WordWheel$Round" "row" "[I" ∈ gw := tb_in (List.mem_of_getElem? (i := 160) (by decide +kernel)) rfl
theorem kf_X4_26 : Cond.fieldLink RX4 26 "WordWheel$Round" "slipsOf" "[J" ∈ gw := tb_in (List.mem_of_getElem? (i := 161) (by decide +kernel)) rfl
theorem kf_X4_30 : Cond.fieldLink RX4 30 "WordWheel$Round" "standsAt" "[J" ∈ gw := tb_in (List.mem_of_getElem? (i := 162) (by decide +kernel)) rfl
theorem kf_X4_33 : Cond.fieldLink RX4 33 "WordWheel$Round" "firstMatch" "I" ∈ gw := tb_in (List.mem_of_getElem? (i := 163) (by decide +kernel)) rfl
theorem kf_X4_36 : Cond.fieldLink RX4 36 "WordWheel$Round" "words" "LWordWheel$Words;" ∈ gw := tb_in (List.mem_of_getElem? (i := 153) (by decide +kernel)) rfl
theorem km_X4_40 : Cond.methodLink RX4 40 yX4_isThere ∈ gw := tb_in (List.mem_of_getElem? (i := 596) (by decide +kernel)) rfl
theorem km_X4_44 : Cond.methodLinkNest RX4 44 yX6_has "WordWheel" ∈ nw := tb_nw (List.mem_of_getElem? (i := 600) (by decide +kernel)) rfl
theorem kk_X4_50 : Cond.constant RX4 50 (40000) ∈ gw := tb_in (List.mem_of_getElem? (i := 562) (by decide +kernel)) rfl
theorem kf_X4_51 : Cond.fieldLinkNest RX4 51 "WordWheel$Words" "length" "I" "WordWheel" ∈ nw := tb_nw (List.mem_of_getElem? (i := 43) (by decide +kernel)) rfl
theorem kf_X4_54 : Cond.fieldLinkNest RX4 54 "WordWheel$Words" "all" "I" "WordWheel" ∈ nw := tb_nw (List.mem_of_getElem? (i := 49) (by decide +kernel)) rfl
theorem km_X4_57 : Cond.methodLink RX4 57 yX4_nextRow ∈ gw := tb_in (List.mem_of_getElem? (i := 563) (by decide +kernel)) rfl
theorem km_X4_61 : Cond.methodLink RX4 61 yX4_findPlaces ∈ gw := tb_in (List.mem_of_getElem? (i := 567) (by decide +kernel)) rfl
theorem kf_X4_64 : Cond.fieldLinkNest RX4 64 "WordWheel$Words" "letters" "I" "WordWheel" ∈ nw := tb_nw (List.mem_of_getElem? (i := 38) (by decide +kernel)) rfl
theorem kf_X4_66 : Cond.fieldLinkNest RX4 66 "WordWheel$Words" "high" "I" "WordWheel" ∈ nw := tb_nw (List.mem_of_getElem? (i := 53) (by decide +kernel)) rfl
theorem km_X4_69 : Cond.methodLink RX4 69 yJ7_fill_fda19 ∈ gw := tb_in (List.mem_of_getElem? (i := 575) (by decide +kernel)) rfl
theorem km_X4_75 : Cond.methodLink RX4 75 yJ7_fill_eb02e ∈ gw := tb_in (List.mem_of_getElem? (i := 576) (by decide +kernel)) rfl
theorem km_X4_78 : Cond.methodLink RX4 78 yX4_greatestNew ∈ gw := tb_in (List.mem_of_getElem? (i := 579) (by decide +kernel)) rfl
theorem km_X4_81 : Cond.methodLink RX4 81 yX4_noteSlips ∈ gw := tb_in (List.mem_of_getElem? (i := 684) (by decide +kernel)) rfl
theorem km_X4_85 : Cond.methodLink RX4 85 yX4_noteFirstPlaces ∈ gw := tb_in (List.mem_of_getElem? (i := 692) (by decide +kernel)) rfl
theorem km_X4_88 : Cond.methodLink RX4 88 yJ13_bitCount_95d88 ∈ gw := tb_in (List.mem_of_getElem? (i := 696) (by decide +kernel)) rfl
theorem km_X4_94 : Cond.methodLink RX4 94 yJ7_fill_d0a16 ∈ gw := tb_in (List.mem_of_getElem? (i := 688) (by decide +kernel)) rfl
theorem km_X4_97 : Cond.methodLinkNest RX4 97 yX6_isLetter "WordWheel" ∈ nw := tb_nw (List.mem_of_getElem? (i := 691) (by decide +kernel)) rfl
theorem km_X5_3 : Cond.methodLink RX5 3 objectInit ∈ gw := tb_in (List.mem_of_getElem? (i := 190) (by decide +kernel)) rfl
theorem kf_X5_9 : Cond.fieldLink RX5 9 "WordWheel$Tape" "items" "[I" ∈ gw := tb_in (List.mem_of_getElem? (i := 192) (by decide +kernel)) rfl
theorem kf_X5_15 : Cond.fieldLink RX5 15 "WordWheel$Tape" "form" "I" ∈ gw := tb_in (List.mem_of_getElem? (i := 194) (by decide +kernel)) rfl
theorem kf_X5_19 : Cond.fieldLink RX5 19 "WordWheel$Tape" "begun" "[I" ∈ gw := tb_in (List.mem_of_getElem? (i := 198) (by decide +kernel)) rfl
theorem kf_X5_22 : Cond.fieldLink RX5 22 "WordWheel$Tape" "words" "LWordWheel$Words;" ∈ gw := tb_in (List.mem_of_getElem? (i := 191) (by decide +kernel)) rfl
theorem kf_X5_26 : Cond.fieldLink RX5 26 "WordWheel$Tape" "length" "I" ∈ gw := tb_in (List.mem_of_getElem? (i := 196) (by decide +kernel)) rfl
theorem km_X5_29 : Cond.methodLink RX5 29 yJ7_fill_fda19 ∈ gw := tb_in (List.mem_of_getElem? (i := 628) (by decide +kernel)) rfl
theorem km_X5_35 : Cond.methodLinkNest RX5 35 yX6_isLetter "WordWheel" ∈ nw := tb_nw (List.mem_of_getElem? (i := 714) (by decide +kernel)) rfl
theorem km_X5_41 : Cond.methodLink RX5 41 yX5_wordAt ∈ gw := tb_in (List.mem_of_getElem? (i := 719) (by decide +kernel)) rfl
theorem kf_X5_45 : Cond.fieldLinkNest RX5 45 "WordWheel$Words" "length" "I" "WordWheel" ∈ nw := tb_nw (List.mem_of_getElem? (i := 44) (by decide +kernel)) rfl
theorem kf_X5_46 : Cond.fieldLinkNest RX5 46 "WordWheel$Words" "letters" "I" "WordWheel" ∈ nw := tb_nw (List.mem_of_getElem? (i := 39) (by decide +kernel)) rfl
theorem km_X6_3 : Cond.methodLink RX6 3 objectInit ∈ gw := tb_in (List.mem_of_getElem? (i := 27) (by decide +kernel)) rfl
theorem kf_X6_9 : Cond.fieldLink RX6 9 "WordWheel$Words" "power" "[I" ∈ gw := tb_in (List.mem_of_getElem? (i := 32) (by decide +kernel)) rfl
theorem km_X6_15 : Cond.methodLink RX6 15 yX6_become ∈ gw := tb_in (List.mem_of_getElem? (i := 28) (by decide +kernel)) rfl
theorem kf_X6_19 : Cond.fieldLink RX6 19 "WordWheel$Words" "letters" "I" ∈ gw := tb_in (List.mem_of_getElem? (i := 35) (by decide +kernel)) rfl
theorem kf_X6_23 : Cond.fieldLink RX6 23 "WordWheel$Words" "length" "I" ∈ gw := tb_in (List.mem_of_getElem? (i := 42) (by decide +kernel)) rfl
theorem kf_X6_26 : Cond.fieldLink RX6 26 "WordWheel$Words" "all" "I" ∈ gw := tb_in (List.mem_of_getElem? (i := 47) (by decide +kernel)) rfl
theorem kf_X6_29 : Cond.fieldLink RX6 29 "WordWheel$Words" "high" "I" ∈ gw := tb_in (List.mem_of_getElem? (i := 52) (by decide +kernel)) rfl
theorem km_X6_32 : Cond.methodLink RX6 32 yX6_turnedOnce ∈ gw := tb_in (List.mem_of_getElem? (i := 309) (by decide +kernel)) rfl
theorem km_X6_36 : Cond.methodLink RX6 36 yJ9_min_7cf53 ∈ gw := tb_in (List.mem_of_getElem? (i := 313) (by decide +kernel)) rfl
theorem kc_L_7 : Cond.classLink RL 7 RX7 ∈ gw := tb_in (List.mem_of_getElem? (i := 14) (by decide +kernel)) rfl
theorem km_L_9 : Cond.methodLink RL 9 yX7_init ∈ gw := tb_in (List.mem_of_getElem? (i := 16) (by decide +kernel)) rfl
theorem kc_L_10 : Cond.classLink RL 10 RX8 ∈ gw := tb_in (List.mem_of_getElem? (i := 784) (by decide +kernel)) rfl
theorem km_L_12 : Cond.methodLink RL 12 yX8_init ∈ gw := tb_in (List.mem_of_getElem? (i := 786) (by decide +kernel)) rfl
theorem km_L_13 : Cond.methodLink RL 13 yX7_wheel ∈ gw := tb_in (List.mem_of_getElem? (i := 276) (by decide +kernel)) rfl
theorem km_L_17 : Cond.methodLink RL 17 yX8_wheel ∈ gw := tb_in (List.mem_of_getElem? (i := 914) (by decide +kernel)) rfl
theorem km_L_18 : Cond.methodLink RL 18 yX7_turn ∈ gw := tb_in (List.mem_of_getElem? (i := 289) (by decide +kernel)) rfl
theorem km_L_21 : Cond.methodLink RL 21 yX8_turn ∈ gw := tb_in (List.mem_of_getElem? (i := 915) (by decide +kernel)) rfl
theorem km_L_22 : Cond.methodLink RL 22 yX7_least ∈ gw := tb_in (List.mem_of_getElem? (i := 301) (by decide +kernel)) rfl
theorem km_L_26 : Cond.methodLink RL 26 yX8_least ∈ gw := tb_in (List.mem_of_getElem? (i := 924) (by decide +kernel)) rfl
theorem km_L_27 : Cond.methodLink RL 27 yX7_steps ∈ gw := tb_in (List.mem_of_getElem? (i := 316) (by decide +kernel)) rfl
theorem km_L_30 : Cond.methodLink RL 30 yX8_steps ∈ gw := tb_in (List.mem_of_getElem? (i := 928) (by decide +kernel)) rfl
theorem km_L_31 : Cond.methodLink RL 31 yX7_size ∈ gw := tb_in (List.mem_of_getElem? (i := 324) (by decide +kernel)) rfl
theorem km_L_34 : Cond.methodLink RL 34 yX8_size ∈ gw := tb_in (List.mem_of_getElem? (i := 932) (by decide +kernel)) rfl
theorem km_L_35 : Cond.methodLink RL 35 yX7_even ∈ gw := tb_in (List.mem_of_getElem? (i := 332) (by decide +kernel)) rfl
theorem km_L_38 : Cond.methodLink RL 38 yX8_even ∈ gw := tb_in (List.mem_of_getElem? (i := 940) (by decide +kernel)) rfl
theorem km_L_39 : Cond.methodLink RL 39 yX7_rings ∈ gw := tb_in (List.mem_of_getElem? (i := 340) (by decide +kernel)) rfl
theorem km_L_43 : Cond.methodLink RL 43 yX8_rings ∈ gw := tb_in (List.mem_of_getElem? (i := 944) (by decide +kernel)) rfl
theorem km_L_44 : Cond.methodLink RL 44 yX7_ringOf ∈ gw := tb_in (List.mem_of_getElem? (i := 380) (by decide +kernel)) rfl
theorem km_L_47 : Cond.methodLink RL 47 yX8_ringOf ∈ gw := tb_in (List.mem_of_getElem? (i := 948) (by decide +kernel)) rfl
theorem km_L_48 : Cond.methodLink RL 48 yX7_ring ∈ gw := tb_in (List.mem_of_getElem? (i := 384) (by decide +kernel)) rfl
theorem km_L_51 : Cond.methodLink RL 51 yX8_ring ∈ gw := tb_in (List.mem_of_getElem? (i := 952) (by decide +kernel)) rfl
theorem km_L_52 : Cond.methodLink RL 52 yX7_below ∈ gw := tb_in (List.mem_of_getElem? (i := 394) (by decide +kernel)) rfl
theorem km_L_55 : Cond.methodLink RL 55 yX8_below ∈ gw := tb_in (List.mem_of_getElem? (i := 956) (by decide +kernel)) rfl
theorem km_L_56 : Cond.methodLink RL 56 yX7_content ∈ gw := tb_in (List.mem_of_getElem? (i := 399) (by decide +kernel)) rfl
theorem km_L_60 : Cond.methodLink RL 60 yX8_content ∈ gw := tb_in (List.mem_of_getElem? (i := 960) (by decide +kernel)) rfl
theorem km_L_61 : Cond.methodLink RL 61 yX7_factor ∈ gw := tb_in (List.mem_of_getElem? (i := 423) (by decide +kernel)) rfl
theorem km_L_64 : Cond.methodLink RL 64 yX8_factor ∈ gw := tb_in (List.mem_of_getElem? (i := 968) (by decide +kernel)) rfl
theorem km_L_65 : Cond.methodLink RL 65 yX7_sum ∈ gw := tb_in (List.mem_of_getElem? (i := 432) (by decide +kernel)) rfl
theorem km_L_68 : Cond.methodLink RL 68 yX8_sum ∈ gw := tb_in (List.mem_of_getElem? (i := 972) (by decide +kernel)) rfl
theorem km_L_69 : Cond.methodLink RL 69 yX7_go ∈ gw := tb_in (List.mem_of_getElem? (i := 440) (by decide +kernel)) rfl
theorem km_L_72 : Cond.methodLink RL 72 yX8_go ∈ gw := tb_in (List.mem_of_getElem? (i := 976) (by decide +kernel)) rfl
theorem km_L_73 : Cond.methodLink RL 73 yX7_right ∈ gw := tb_in (List.mem_of_getElem? (i := 456) (by decide +kernel)) rfl
theorem km_L_76 : Cond.methodLink RL 76 yX8_right ∈ gw := tb_in (List.mem_of_getElem? (i := 980) (by decide +kernel)) rfl
theorem km_L_77 : Cond.methodLink RL 77 yX7_exchange ∈ gw := tb_in (List.mem_of_getElem? (i := 464) (by decide +kernel)) rfl
theorem km_L_80 : Cond.methodLink RL 80 yX8_exchange ∈ gw := tb_in (List.mem_of_getElem? (i := 988) (by decide +kernel)) rfl
theorem km_L_81 : Cond.methodLink RL 81 yX7_back ∈ gw := tb_in (List.mem_of_getElem? (i := 509) (by decide +kernel)) rfl
theorem km_L_84 : Cond.methodLink RL 84 yX8_back ∈ gw := tb_in (List.mem_of_getElem? (i := 1000) (by decide +kernel)) rfl
theorem km_L_85 : Cond.methodLink RL 85 yX7_cycles ∈ gw := tb_in (List.mem_of_getElem? (i := 517) (by decide +kernel)) rfl
theorem km_L_88 : Cond.methodLink RL 88 yX8_cycles ∈ gw := tb_in (List.mem_of_getElem? (i := 1004) (by decide +kernel)) rfl
theorem km_L_89 : Cond.methodLink RL 89 yX7_cycleOf ∈ gw := tb_in (List.mem_of_getElem? (i := 522) (by decide +kernel)) rfl
theorem km_L_92 : Cond.methodLink RL 92 yX8_cycleOf ∈ gw := tb_in (List.mem_of_getElem? (i := 1008) (by decide +kernel)) rfl
theorem km_L_93 : Cond.methodLink RL 93 yX7_cycle ∈ gw := tb_in (List.mem_of_getElem? (i := 530) (by decide +kernel)) rfl
theorem km_L_96 : Cond.methodLink RL 96 yX8_cycle ∈ gw := tb_in (List.mem_of_getElem? (i := 1012) (by decide +kernel)) rfl
theorem km_L_97 : Cond.methodLink RL 97 yX7_join ∈ gw := tb_in (List.mem_of_getElem? (i := 542) (by decide +kernel)) rfl
theorem km_L_100 : Cond.methodLink RL 100 yX8_join ∈ gw := tb_in (List.mem_of_getElem? (i := 1016) (by decide +kernel)) rfl
theorem km_L_101 : Cond.methodLink RL 101 yX7_round ∈ gw := tb_in (List.mem_of_getElem? (i := 554) (by decide +kernel)) rfl
theorem km_L_104 : Cond.methodLink RL 104 yX8_round ∈ gw := tb_in (List.mem_of_getElem? (i := 1028) (by decide +kernel)) rfl
theorem km_L_105 : Cond.methodLink RL 105 yX7_letter ∈ gw := tb_in (List.mem_of_getElem? (i := 588) (by decide +kernel)) rfl
theorem km_L_108 : Cond.methodLink RL 108 yX8_letter ∈ gw := tb_in (List.mem_of_getElem? (i := 1040) (by decide +kernel)) rfl
theorem km_L_109 : Cond.methodLink RL 109 yX7_place ∈ gw := tb_in (List.mem_of_getElem? (i := 601) (by decide +kernel)) rfl
theorem km_L_112 : Cond.methodLink RL 112 yX8_place ∈ gw := tb_in (List.mem_of_getElem? (i := 1044) (by decide +kernel)) rfl
theorem km_L_113 : Cond.methodLink RL 113 yX7_way ∈ gw := tb_in (List.mem_of_getElem? (i := 606) (by decide +kernel)) rfl
theorem km_L_116 : Cond.methodLink RL 116 yX8_way ∈ gw := tb_in (List.mem_of_getElem? (i := 1048) (by decide +kernel)) rfl
theorem km_L_117 : Cond.methodLink RL 117 yX7_tape ∈ gw := tb_in (List.mem_of_getElem? (i := 610) (by decide +kernel)) rfl
theorem km_L_121 : Cond.methodLink RL 121 yX8_tape ∈ gw := tb_in (List.mem_of_getElem? (i := 1052) (by decide +kernel)) rfl
theorem km_L_122 : Cond.methodLink RL 122 yX7_lose ∈ gw := tb_in (List.mem_of_getElem? (i := 629) (by decide +kernel)) rfl
theorem km_L_125 : Cond.methodLink RL 125 yX8_lose ∈ gw := tb_in (List.mem_of_getElem? (i := 1064) (by decide +kernel)) rfl
theorem km_L_126 : Cond.methodLink RL 126 yX7_put ∈ gw := tb_in (List.mem_of_getElem? (i := 641) (by decide +kernel)) rfl
theorem km_L_130 : Cond.methodLink RL 130 yX8_put ∈ gw := tb_in (List.mem_of_getElem? (i := 1068) (by decide +kernel)) rfl
theorem km_L_131 : Cond.methodLink RL 131 yX7_get ∈ gw := tb_in (List.mem_of_getElem? (i := 656) (by decide +kernel)) rfl
theorem km_L_134 : Cond.methodLink RL 134 yX8_get ∈ gw := tb_in (List.mem_of_getElem? (i := 1077) (by decide +kernel)) rfl
theorem km_L_135 : Cond.methodLink RL 135 yX7_copy ∈ gw := tb_in (List.mem_of_getElem? (i := 661) (by decide +kernel)) rfl
theorem km_L_138 : Cond.methodLink RL 138 yX8_copy ∈ gw := tb_in (List.mem_of_getElem? (i := 1082) (by decide +kernel)) rfl
theorem km_L_139 : Cond.methodLink RL 139 yX7_print ∈ gw := tb_in (List.mem_of_getElem? (i := 668) (by decide +kernel)) rfl
theorem km_L_142 : Cond.methodLink RL 142 yX8_print ∈ gw := tb_in (List.mem_of_getElem? (i := 1090) (by decide +kernel)) rfl
theorem km_L_143 : Cond.methodLink RL 143 yX7_find ∈ gw := tb_in (List.mem_of_getElem? (i := 676) (by decide +kernel)) rfl
theorem km_L_146 : Cond.methodLink RL 146 yX8_find ∈ gw := tb_in (List.mem_of_getElem? (i := 1094) (by decide +kernel)) rfl
theorem km_L_147 : Cond.methodLink RL 147 yX7_found ∈ gw := tb_in (List.mem_of_getElem? (i := 702) (by decide +kernel)) rfl
theorem km_L_150 : Cond.methodLink RL 150 yX8_found ∈ gw := tb_in (List.mem_of_getElem? (i := 1099) (by decide +kernel)) rfl
theorem km_L_151 : Cond.methodLink RL 151 yX7_twice ∈ gw := tb_in (List.mem_of_getElem? (i := 706) (by decide +kernel)) rfl
theorem km_L_154 : Cond.methodLink RL 154 yX8_twice ∈ gw := tb_in (List.mem_of_getElem? (i := 1103) (by decide +kernel)) rfl
theorem km_L_155 : Cond.methodLink RL 155 yX7_parts ∈ gw := tb_in (List.mem_of_getElem? (i := 723) (by decide +kernel)) rfl
theorem km_L_158 : Cond.methodLink RL 158 yX8_parts ∈ gw := tb_in (List.mem_of_getElem? (i := 1111) (by decide +kernel)) rfl
theorem km_L_159 : Cond.methodLink RL 159 yX7_part ∈ gw := tb_in (List.mem_of_getElem? (i := 731) (by decide +kernel)) rfl
theorem km_L_162 : Cond.methodLink RL 162 yX8_part ∈ gw := tb_in (List.mem_of_getElem? (i := 1115) (by decide +kernel)) rfl
theorem km_L_163 : Cond.methodLink RL 163 yX7_recurrence ∈ gw := tb_in (List.mem_of_getElem? (i := 735) (by decide +kernel)) rfl
theorem km_L_166 : Cond.methodLink RL 166 yX8_recurrence ∈ gw := tb_in (List.mem_of_getElem? (i := 1119) (by decide +kernel)) rfl
theorem km_L_167 : Cond.methodLink RL 167 yX7_coefficient ∈ gw := tb_in (List.mem_of_getElem? (i := 765) (by decide +kernel)) rfl
theorem km_L_170 : Cond.methodLink RL 170 yX8_coefficient ∈ gw := tb_in (List.mem_of_getElem? (i := 1135) (by decide +kernel)) rfl
theorem km_L_171 : Cond.methodLink RL 171 yX7_count ∈ gw := tb_in (List.mem_of_getElem? (i := 773) (by decide +kernel)) rfl
theorem km_L_174 : Cond.methodLink RL 174 yX8_count ∈ gw := tb_in (List.mem_of_getElem? (i := 1139) (by decide +kernel)) rfl
theorem km_L_175 : Cond.methodLink RL 175 yX7_digest ∈ gw := tb_in (List.mem_of_getElem? (i := 777) (by decide +kernel)) rfl
theorem km_L_179 : Cond.methodLink RL 179 yX8_digest ∈ gw := tb_in (List.mem_of_getElem? (i := 1143) (by decide +kernel)) rfl
theorem km_X8_1 : Cond.methodLink RX8 1 objectInit ∈ gw := tb_in (List.mem_of_getElem? (i := 789) (by decide +kernel)) rfl
theorem kf_X8_7 : Cond.fieldLink RX8 7 "WordWheelModel" "leasts" "[I" ∈ gw := tb_in (List.mem_of_getElem? (i := 816) (by decide +kernel)) rfl
theorem kf_X8_13 : Cond.fieldLink RX8 13 "WordWheelModel" "wanted" "[I" ∈ gw := tb_in (List.mem_of_getElem? (i := 817) (by decide +kernel)) rfl
theorem kf_X8_16 : Cond.fieldLink RX8 16 "WordWheelModel" "had" "[I" ∈ gw := tb_in (List.mem_of_getElem? (i := 818) (by decide +kernel)) rfl
theorem kf_X8_19 : Cond.fieldLink RX8 19 "WordWheelModel" "factors" "[I" ∈ gw := tb_in (List.mem_of_getElem? (i := 819) (by decide +kernel)) rfl
theorem kf_X8_22 : Cond.fieldLink RX8 22 "WordWheelModel" "to" "[I" ∈ gw := tb_in (List.mem_of_getElem? (i := 821) (by decide +kernel)) rfl
theorem kf_X8_25 : Cond.fieldLink RX8 25 "WordWheelModel" "one" "[I" ∈ gw := tb_in (List.mem_of_getElem? (i := 823) (by decide +kernel)) rfl
theorem kf_X8_28 : Cond.fieldLink RX8 28 "WordWheelModel" "other" "[I" ∈ gw := tb_in (List.mem_of_getElem? (i := 824) (by decide +kernel)) rfl
theorem kf_X8_31 : Cond.fieldLink RX8 31 "WordWheelModel" "seen" "[Z" ∈ gw := tb_in (List.mem_of_getElem? (i := 825) (by decide +kernel)) rfl
theorem kf_X8_35 : Cond.fieldLink RX8 35 "WordWheelModel" "number" "[I" ∈ gw := tb_in (List.mem_of_getElem? (i := 826) (by decide +kernel)) rfl
theorem kf_X8_38 : Cond.fieldLink RX8 38 "WordWheelModel" "group" "[I" ∈ gw := tb_in (List.mem_of_getElem? (i := 828) (by decide +kernel)) rfl
theorem kf_X8_41 : Cond.fieldLink RX8 41 "WordWheelModel" "round" "[I" ∈ gw := tb_in (List.mem_of_getElem? (i := 830) (by decide +kernel)) rfl
theorem kf_X8_44 : Cond.fieldLink RX8 44 "WordWheelModel" "placeOf" "[I" ∈ gw := tb_in (List.mem_of_getElem? (i := 831) (by decide +kernel)) rfl
theorem kf_X8_47 : Cond.fieldLink RX8 47 "WordWheelModel" "forms" "[I" ∈ gw := tb_in (List.mem_of_getElem? (i := 832) (by decide +kernel)) rfl
theorem kf_X8_50 : Cond.fieldLink RX8 50 "WordWheelModel" "sizes" "[I" ∈ gw := tb_in (List.mem_of_getElem? (i := 833) (by decide +kernel)) rfl
theorem kf_X8_53 : Cond.fieldLink RX8 53 "WordWheelModel" "items" "[I" ∈ gw := tb_in (List.mem_of_getElem? (i := 834) (by decide +kernel)) rfl
theorem kf_X8_56 : Cond.fieldLink RX8 56 "WordWheelModel" "moved" "[I" ∈ gw := tb_in (List.mem_of_getElem? (i := 835) (by decide +kernel)) rfl
theorem kf_X8_59 : Cond.fieldLink RX8 59 "WordWheelModel" "partAt" "[I" ∈ gw := tb_in (List.mem_of_getElem? (i := 839) (by decide +kernel)) rfl
theorem kf_X8_62 : Cond.fieldLink RX8 62 "WordWheelModel" "told" "[I" ∈ gw := tb_in (List.mem_of_getElem? (i := 841) (by decide +kernel)) rfl
theorem kf_X8_65 : Cond.fieldLink RX8 65 "WordWheelModel" "now" "[I" ∈ gw := tb_in (List.mem_of_getElem? (i := 842) (by decide +kernel)) rfl
theorem kf_X8_68 : Cond.fieldLink RX8 68 "WordWheelModel" "before" "[I" ∈ gw := tb_in (List.mem_of_getElem? (i := 843) (by decide +kernel)) rfl
theorem kf_X8_71 : Cond.fieldLink RX8 71 "WordWheelModel" "kept" "[I" ∈ gw := tb_in (List.mem_of_getElem? (i := 844) (by decide +kernel)) rfl
theorem kk_X8_74 : Cond.constant RX8 74 (40602) ∈ gw := tb_in (List.mem_of_getElem? (i := 790) (by decide +kernel)) rfl
theorem kf_X8_75 : Cond.fieldLink RX8 75 "WordWheelModel" "matrix" "[I" ∈ gw := tb_in (List.mem_of_getElem? (i := 845) (by decide +kernel)) rfl
theorem km_X8_78 : Cond.methodLink RX8 78 yX8_wheel ∈ gw := tb_in (List.mem_of_getElem? (i := 791) (by decide +kernel)) rfl
theorem kk_X8_82 : Cond.constantLong RX8 82 (2) ∈ gw := tb_in (List.mem_of_getElem? (i := 795) (by decide +kernel)) rfl
theorem kk_X8_84 : Cond.constantLong RX8 84 (5) ∈ gw := tb_in (List.mem_of_getElem? (i := 796) (by decide +kernel)) rfl
theorem km_X8_86 : Cond.methodLink RX8 86 yX8_in ∈ gw := tb_in (List.mem_of_getElem? (i := 797) (by decide +kernel)) rfl
theorem kk_X8_90 : Cond.constantLong RX8 90 (14) ∈ gw := tb_in (List.mem_of_getElem? (i := 800) (by decide +kernel)) rfl
theorem kf_X8_92 : Cond.fieldLink RX8 92 "WordWheelModel" "k" "I" ∈ gw := tb_in (List.mem_of_getElem? (i := 813) (by decide +kernel)) rfl
theorem kf_X8_96 : Cond.fieldLink RX8 96 "WordWheelModel" "n" "I" ∈ gw := tb_in (List.mem_of_getElem? (i := 814) (by decide +kernel)) rfl
theorem kf_X8_99 : Cond.fieldLink RX8 99 "WordWheelModel" "all" "I" ∈ gw := tb_in (List.mem_of_getElem? (i := 815) (by decide +kernel)) rfl
theorem km_X8_102 : Cond.methodLink RX8 102 yX8_leastOf ∈ gw := tb_in (List.mem_of_getElem? (i := 801) (by decide +kernel)) rfl
theorem kf_X8_106 : Cond.fieldLink RX8 106 "WordWheelModel" "sum" "I" ∈ gw := tb_in (List.mem_of_getElem? (i := 820) (by decide +kernel)) rfl
theorem km_X8_109 : Cond.methodLink RX8 109 yX8_lead ∈ gw := tb_in (List.mem_of_getElem? (i := 809) (by decide +kernel)) rfl
theorem kf_X8_112 : Cond.fieldLink RX8 112 "WordWheelModel" "which" "I" ∈ gw := tb_in (List.mem_of_getElem? (i := 829) (by decide +kernel)) rfl
theorem kf_X8_115 : Cond.fieldLink RX8 115 "WordWheelModel" "firstFound" "I" ∈ gw := tb_in (List.mem_of_getElem? (i := 837) (by decide +kernel)) rfl
theorem km_X8_118 : Cond.methodLink RX8 118 yX8_next ∈ gw := tb_in (List.mem_of_getElem? (i := 805) (by decide +kernel)) rfl
theorem km_X8_121 : Cond.methodLink RX8 121 yX8_isWord ∈ gw := tb_in (List.mem_of_getElem? (i := 919) (by decide +kernel)) rfl
theorem kk_X8_125 : Cond.constantLong RX8 125 (1000) ∈ gw := tb_in (List.mem_of_getElem? (i := 923) (by decide +kernel)) rfl
theorem km_X8_127 : Cond.methodLink RX8 127 yX8_sizeOf ∈ gw := tb_in (List.mem_of_getElem? (i := 936) (by decide +kernel)) rfl
theorem km_X8_130 : Cond.methodLink RX8 130 yX8_hasWanted ∈ gw := tb_in (List.mem_of_getElem? (i := 964) (by decide +kernel)) rfl
theorem kf_X8_133 : Cond.fieldLink RX8 133 "WordWheelModel" "exchanges" "I" ∈ gw := tb_in (List.mem_of_getElem? (i := 822) (by decide +kernel)) rfl
theorem km_X8_136 : Cond.methodLink RX8 136 yX8_isRight ∈ gw := tb_in (List.mem_of_getElem? (i := 984) (by decide +kernel)) rfl
theorem kf_X8_140 : Cond.fieldLink RX8 140 "WordWheelModel" "cycleMany" "I" ∈ gw := tb_in (List.mem_of_getElem? (i := 827) (by decide +kernel)) rfl
theorem km_X8_143 : Cond.methodLink RX8 143 yX8_swap ∈ gw := tb_in (List.mem_of_getElem? (i := 992) (by decide +kernel)) rfl
theorem km_X8_147 : Cond.methodLink RX8 147 yX8_findCycles ∈ gw := tb_in (List.mem_of_getElem? (i := 996) (by decide +kernel)) rfl
theorem km_X8_150 : Cond.methodLink RX8 150 yX8_groupOf ∈ gw := tb_in (List.mem_of_getElem? (i := 1024) (by decide +kernel)) rfl
theorem km_X8_153 : Cond.methodLink RX8 153 yX8_joins ∈ gw := tb_in (List.mem_of_getElem? (i := 1020) (by decide +kernel)) rfl
theorem km_X8_157 : Cond.methodLink RX8 157 yX8_leastRound ∈ gw := tb_in (List.mem_of_getElem? (i := 1032) (by decide +kernel)) rfl
theorem km_X8_160 : Cond.methodLink RX8 160 yX8_greedyRound ∈ gw := tb_in (List.mem_of_getElem? (i := 1036) (by decide +kernel)) rfl
theorem kf_X8_163 : Cond.fieldLink RX8 163 "WordWheelModel" "latest" "I" ∈ gw := tb_in (List.mem_of_getElem? (i := 836) (by decide +kernel)) rfl
theorem kk_X8_166 : Cond.constantLong RX8 166 (3) ∈ gw := tb_in (List.mem_of_getElem? (i := 1059) (by decide +kernel)) rfl
theorem km_X8_168 : Cond.methodLink RX8 168 yX8_isTape ∈ gw := tb_in (List.mem_of_getElem? (i := 1056) (by decide +kernel)) rfl
theorem km_X8_171 : Cond.methodLink RX8 171 yX8_met ∈ gw := tb_in (List.mem_of_getElem? (i := 1060) (by decide +kernel)) rfl
theorem km_X8_174 : Cond.methodLink RX8 174 yX8_lacks ∈ gw := tb_in (List.mem_of_getElem? (i := 1072) (by decide +kernel)) rfl
theorem kk_X8_178 : Cond.constant RX8 178 (65535) ∈ gw := tb_in (List.mem_of_getElem? (i := 1076) (by decide +kernel)) rfl
theorem kk_X8_179 : Cond.constant RX8 179 (-2147483648) ∈ gw := tb_in (List.mem_of_getElem? (i := 1081) (by decide +kernel)) rfl
theorem km_X8_180 : Cond.methodLink RX8 180 yX8_isWithin ∈ gw := tb_in (List.mem_of_getElem? (i := 1086) (by decide +kernel)) rfl
theorem kk_X8_184 : Cond.constantLong RX8 184 (40) ∈ gw := tb_in (List.mem_of_getElem? (i := 1098) (by decide +kernel)) rfl
theorem km_X8_186 : Cond.methodLink RX8 186 yX8_noLetters ∈ gw := tb_in (List.mem_of_getElem? (i := 1107) (by decide +kernel)) rfl
theorem kf_X8_189 : Cond.fieldLink RX8 189 "WordWheelModel" "partMany" "I" ∈ gw := tb_in (List.mem_of_getElem? (i := 838) (by decide +kernel)) rfl
theorem km_X8_192 : Cond.methodLink RX8 192 yX8_inverse ∈ gw := tb_in (List.mem_of_getElem? (i := 1127) (by decide +kernel)) rfl
theorem km_X8_195 : Cond.methodLink RX8 195 yX8_leastLength ∈ gw := tb_in (List.mem_of_getElem? (i := 1123) (by decide +kernel)) rfl
theorem kf_X8_198 : Cond.fieldLink RX8 198 "WordWheelModel" "length" "I" ∈ gw := tb_in (List.mem_of_getElem? (i := 840) (by decide +kernel)) rfl
theorem km_X8_201 : Cond.methodLink RX8 201 yX8_solve ∈ gw := tb_in (List.mem_of_getElem? (i := 1131) (by decide +kernel)) rfl
theorem kk_X8_204 : Cond.constantLong RX8 204 (17) ∈ gw := tb_in (List.mem_of_getElem? (i := 1147) (by decide +kernel)) rfl
theorem kk_X8_206 : Cond.constantLong RX8 206 (31) ∈ gw := tb_in (List.mem_of_getElem? (i := 1148) (by decide +kernel)) rfl
theorem km_X8_208 : Cond.methodLink RX8 208 yX8_count ∈ gw := tb_in (List.mem_of_getElem? (i := 1149) (by decide +kernel)) rfl
theorem kk_J13_314 : Cond.constantLong RJ13 314 (6148914691236517205) ∈ gw := tb_in (List.mem_of_getElem? (i := 699) (by decide +kernel)) rfl
theorem kk_J13_316 : Cond.constantLong RJ13 316 (3689348814741910323) ∈ gw := tb_in (List.mem_of_getElem? (i := 700) (by decide +kernel)) rfl
theorem kk_J13_318 : Cond.constantLong RJ13 318 (1085102592571150095) ∈ gw := tb_in (List.mem_of_getElem? (i := 701) (by decide +kernel)) rfl
theorem km_J7_13 : Cond.methodLink RJ7 13 yJ7_rangeCheck_23922 ∈ gw := tb_in (List.mem_of_getElem? (i := 369) (by decide +kernel)) rfl
end
section
/-! the methods: record, and the words that a call of it wants -/
abbrev mX0_init : my := (yX0_init, cX0_init, 1, none)
theorem kx_X0_init : Cond.code mX0_init.1 mX0_init.2.1 mX0_init.2.2.1 mX0_init.2.2.2 ∈ gw := tb_in (List.mem_of_getElem? (i := 214) (by decide +kernel)) rfl
theorem cw_X0_init {y : my} {index d2 : Nat} : Cw y mX0_init index 0 d2 := ⟨kx_X0_init, tb_in (List.mem_of_getElem? (i := 8) (by decide +kernel)) rfl, by decide +kernel, by decide⟩
theorem ki_X0_init : Cond.instanceMethod yX0_init ∈ gw := tb_in (List.mem_of_getElem? (i := 213) (by decide +kernel)) rfl
abbrev mX0_divide : my := (yX0_divide, cX0_divide, 9, (some .int))
theorem kx_X0_divide : Cond.code mX0_divide.1 mX0_divide.2.1 mX0_divide.2.2.1 mX0_divide.2.2.2 ∈ gw := tb_in (List.mem_of_getElem? (i := 730) (by decide +kernel)) rfl
theorem cw_X0_divide {y : my} {index d2 : Nat} : Cw y mX0_divide index 2 d2 := ⟨kx_X0_divide, tb_in (List.mem_of_getElem? (i := 8) (by decide +kernel)) rfl, by decide +kernel, by decide⟩
theorem ki_X0_divide : Cond.instanceMethod yX0_divide ∈ gw := tb_in (List.mem_of_getElem? (i := 729) (by decide +kernel)) rfl
theorem ks_X0_divide : Cond.selects RX0 yX0_divide yX0_divide ∈ gw := tb_sel (List.mem_of_getElem? (i := 67) (by decide +kernel)) rfl
abbrev mX1_init : my := (yX1_init, cX1_init, 1, none)
theorem kx_X1_init : Cond.code mX1_init.1 mX1_init.2.1 mX1_init.2.2.1 mX1_init.2.2.2 ∈ gw := tb_in (List.mem_of_getElem? (i := 229) (by decide +kernel)) rfl
theorem cw_X1_init {y : my} {index d2 : Nat} : Cw y mX1_init index 0 d2 := ⟨kx_X1_init, tb_in (List.mem_of_getElem? (i := 9) (by decide +kernel)) rfl, by decide +kernel, by decide⟩
theorem ki_X1_init : Cond.instanceMethod yX1_init ∈ gw := tb_in (List.mem_of_getElem? (i := 228) (by decide +kernel)) rfl
abbrev mX1_coefficientAt : my := (yX1_coefficientAt, cX1_coefficientAt, 2, (some .int))
theorem kx_X1_coefficientAt : Cond.code mX1_coefficientAt.1 mX1_coefficientAt.2.1 mX1_coefficientAt.2.2.1 mX1_coefficientAt.2.2.2 ∈ gw := tb_in (List.mem_of_getElem? (i := 772) (by decide +kernel)) rfl
theorem cw_X1_coefficientAt {y : my} {index d2 : Nat} : Cw y mX1_coefficientAt index 1 d2 := ⟨kx_X1_coefficientAt, tb_in (List.mem_of_getElem? (i := 9) (by decide +kernel)) rfl, by decide +kernel, by decide⟩
theorem ki_X1_coefficientAt : Cond.instanceMethod yX1_coefficientAt ∈ gw := tb_in (List.mem_of_getElem? (i := 771) (by decide +kernel)) rfl
theorem ks_X1_coefficientAt : Cond.selects RX1 yX1_coefficientAt yX1_coefficientAt ∈ gw := tb_sel (List.mem_of_getElem? (i := 74) (by decide +kernel)) rfl
abbrev mX1_learn : my := (yX1_learn, cX1_learn, 9, (some .int))
theorem kx_X1_learn : Cond.code mX1_learn.1 mX1_learn.2.1 mX1_learn.2.2.1 mX1_learn.2.2.2 ∈ gw := tb_in (List.mem_of_getElem? (i := 742) (by decide +kernel)) rfl
theorem cw_X1_learn {y : my} {index d2 : Nat} : Cw y mX1_learn index 3 d2 := ⟨kx_X1_learn, tb_in (List.mem_of_getElem? (i := 9) (by decide +kernel)) rfl, by decide +kernel, by decide⟩
theorem ki_X1_learn : Cond.instanceMethod yX1_learn ∈ gw := tb_in (List.mem_of_getElem? (i := 741) (by decide +kernel)) rfl
theorem ks_X1_learn : Cond.selects RX1 yX1_learn yX1_learn ∈ gw := tb_sel (List.mem_of_getElem? (i := 68) (by decide +kernel)) rfl
abbrev mX1_gapAt : my := (yX1_gapAt, cX1_gapAt, 5, (some .int))
theorem kx_X1_gapAt : Cond.code mX1_gapAt.1 mX1_gapAt.2.1 mX1_gapAt.2.2.1 mX1_gapAt.2.2.2 ∈ gw := tb_in (List.mem_of_getElem? (i := 747) (by decide +kernel)) rfl
theorem cw_X1_gapAt {y : my} {index d2 : Nat} : Cw y mX1_gapAt index 2 d2 := ⟨kx_X1_gapAt, tb_in (List.mem_of_getElem? (i := 9) (by decide +kernel)) rfl, by decide +kernel, by decide⟩
theorem ki_X1_gapAt : Cond.instanceMethod yX1_gapAt ∈ gw := tb_in (List.mem_of_getElem? (i := 746) (by decide +kernel)) rfl
theorem ks_X1_gapAt : Cond.selects RX1 yX1_gapAt yX1_gapAt ∈ gw := tb_sel (List.mem_of_getElem? (i := 69) (by decide +kernel)) rfl
abbrev mX1_inverse : my := (yX1_inverse, cX1_inverse, 3, (some .int))
theorem kx_X1_inverse : Cond.code mX1_inverse.1 mX1_inverse.2.1 mX1_inverse.2.2.1 mX1_inverse.2.2.2 ∈ gw := tb_in (List.mem_of_getElem? (i := 751) (by decide +kernel)) rfl
theorem cw_X1_inverse {y : my} {index d2 : Nat} : Cw y mX1_inverse index 1 d2 := ⟨kx_X1_inverse, tb_in (List.mem_of_getElem? (i := 9) (by decide +kernel)) rfl, by decide +kernel, by decide⟩
theorem ki_X1_inverse : Cond.instanceMethod yX1_inverse ∈ gw := tb_in (List.mem_of_getElem? (i := 750) (by decide +kernel)) rfl
theorem ks_X1_inverse : Cond.selects RX1 yX1_inverse yX1_inverse ∈ gw := tb_sel (List.mem_of_getElem? (i := 70) (by decide +kernel)) rfl
abbrev mX1_lengthen : my := (yX1_lengthen, cX1_lengthen, 4, none)
theorem kx_X1_lengthen : Cond.code mX1_lengthen.1 mX1_lengthen.2.1 mX1_lengthen.2.2.1 mX1_lengthen.2.2.2 ∈ gw := tb_in (List.mem_of_getElem? (i := 755) (by decide +kernel)) rfl
theorem cw_X1_lengthen {y : my} {index d2 : Nat} : Cw y mX1_lengthen index 3 d2 := ⟨kx_X1_lengthen, tb_in (List.mem_of_getElem? (i := 9) (by decide +kernel)) rfl, by decide +kernel, by decide⟩
theorem ki_X1_lengthen : Cond.instanceMethod yX1_lengthen ∈ gw := tb_in (List.mem_of_getElem? (i := 754) (by decide +kernel)) rfl
theorem ks_X1_lengthen : Cond.selects RX1 yX1_lengthen yX1_lengthen ∈ gw := tb_sel (List.mem_of_getElem? (i := 71) (by decide +kernel)) rfl
abbrev mX1_subtractEarlier : my := (yX1_subtractEarlier, cX1_subtractEarlier, 4, none)
theorem kx_X1_subtractEarlier : Cond.code mX1_subtractEarlier.1 mX1_subtractEarlier.2.1 mX1_subtractEarlier.2.2.1 mX1_subtractEarlier.2.2.2 ∈ gw := tb_in (List.mem_of_getElem? (i := 760) (by decide +kernel)) rfl
theorem cw_X1_subtractEarlier {y : my} {index d2 : Nat} : Cw y mX1_subtractEarlier index 2 d2 := ⟨kx_X1_subtractEarlier, tb_in (List.mem_of_getElem? (i := 9) (by decide +kernel)) rfl, by decide +kernel, by decide⟩
theorem ki_X1_subtractEarlier : Cond.instanceMethod yX1_subtractEarlier ∈ gw := tb_in (List.mem_of_getElem? (i := 759) (by decide +kernel)) rfl
theorem ks_X1_subtractEarlier : Cond.selects RX1 yX1_subtractEarlier yX1_subtractEarlier ∈ gw := tb_sel (List.mem_of_getElem? (i := 72) (by decide +kernel)) rfl
abbrev mX1_lowerNumbers : my := (yX1_lowerNumbers, cX1_lowerNumbers, 4, none)
theorem kx_X1_lowerNumbers : Cond.code mX1_lowerNumbers.1 mX1_lowerNumbers.2.1 mX1_lowerNumbers.2.2.1 mX1_lowerNumbers.2.2.2 ∈ gw := tb_in (List.mem_of_getElem? (i := 764) (by decide +kernel)) rfl
theorem cw_X1_lowerNumbers {y : my} {index d2 : Nat} : Cw y mX1_lowerNumbers index 2 d2 := ⟨kx_X1_lowerNumbers, tb_in (List.mem_of_getElem? (i := 9) (by decide +kernel)) rfl, by decide +kernel, by decide⟩
theorem ki_X1_lowerNumbers : Cond.instanceMethod yX1_lowerNumbers ∈ gw := tb_in (List.mem_of_getElem? (i := 763) (by decide +kernel)) rfl
theorem ks_X1_lowerNumbers : Cond.selects RX1 yX1_lowerNumbers yX1_lowerNumbers ∈ gw := tb_sel (List.mem_of_getElem? (i := 73) (by decide +kernel)) rfl
abbrev mX2_init : my := (yX2_init, cX2_init, 2, none)
theorem kx_X2_init : Cond.code mX2_init.1 mX2_init.2.1 mX2_init.2.2.1 mX2_init.2.2.2 ∈ gw := tb_in (List.mem_of_getElem? (i := 90) (by decide +kernel)) rfl
theorem cw_X2_init {y : my} {index d2 : Nat} : Cw y mX2_init index 1 d2 := ⟨kx_X2_init, tb_in (List.mem_of_getElem? (i := 4) (by decide +kernel)) rfl, by decide +kernel, by decide⟩
theorem ki_X2_init : Cond.instanceMethod yX2_init ∈ gw := tb_in (List.mem_of_getElem? (i := 89) (by decide +kernel)) rfl
abbrev mX2_becomeTurning : my := (yX2_becomeTurning, cX2_becomeTurning, 1, none)
theorem kx_X2_becomeTurning : Cond.code mX2_becomeTurning.1 mX2_becomeTurning.2.1 mX2_becomeTurning.2.2.1 mX2_becomeTurning.2.2.2 ∈ gw := tb_in (List.mem_of_getElem? (i := 95) (by decide +kernel)) rfl
theorem cw_X2_becomeTurning {y : my} {index d2 : Nat} : Cw y mX2_becomeTurning index 0 d2 := ⟨kx_X2_becomeTurning, tb_in (List.mem_of_getElem? (i := 4) (by decide +kernel)) rfl, by decide +kernel, by decide⟩
theorem ki_X2_becomeTurning : Cond.instanceMethod yX2_becomeTurning ∈ gw := tb_in (List.mem_of_getElem? (i := 94) (by decide +kernel)) rfl
theorem ks_X2_becomeTurning : Cond.selects RX2 yX2_becomeTurning yX2_becomeTurning ∈ gw := tb_sel (List.mem_of_getElem? (i := 1) (by decide +kernel)) rfl
abbrev mX2_changeFactor : my := (yX2_changeFactor, cX2_changeFactor, 4, (some .int))
theorem kx_X2_changeFactor : Cond.code mX2_changeFactor.1 mX2_changeFactor.2.1 mX2_changeFactor.2.2.1 mX2_changeFactor.2.2.2 ∈ gw := tb_in (List.mem_of_getElem? (i := 431) (by decide +kernel)) rfl
theorem cw_X2_changeFactor {y : my} {index d2 : Nat} : Cw y mX2_changeFactor index 2 d2 := ⟨kx_X2_changeFactor, tb_in (List.mem_of_getElem? (i := 4) (by decide +kernel)) rfl, by decide +kernel, by decide⟩
theorem ki_X2_changeFactor : Cond.instanceMethod yX2_changeFactor ∈ gw := tb_in (List.mem_of_getElem? (i := 430) (by decide +kernel)) rfl
theorem ks_X2_changeFactor : Cond.selects RX2 yX2_changeFactor yX2_changeFactor ∈ gw := tb_sel (List.mem_of_getElem? (i := 24) (by decide +kernel)) rfl
abbrev mX2_changeSum : my := (yX2_changeSum, cX2_changeSum, 3, (some .int))
theorem kx_X2_changeSum : Cond.code mX2_changeSum.1 mX2_changeSum.2.1 mX2_changeSum.2.2.1 mX2_changeSum.2.2.2 ∈ gw := tb_in (List.mem_of_getElem? (i := 439) (by decide +kernel)) rfl
theorem cw_X2_changeSum {y : my} {index d2 : Nat} : Cw y mX2_changeSum index 1 d2 := ⟨kx_X2_changeSum, tb_in (List.mem_of_getElem? (i := 4) (by decide +kernel)) rfl, by decide +kernel, by decide⟩
theorem ki_X2_changeSum : Cond.instanceMethod yX2_changeSum ∈ gw := tb_in (List.mem_of_getElem? (i := 438) (by decide +kernel)) rfl
theorem ks_X2_changeSum : Cond.selects RX2 yX2_changeSum yX2_changeSum ∈ gw := tb_sel (List.mem_of_getElem? (i := 25) (by decide +kernel)) rfl
abbrev mX2_forgetExchanges : my := (yX2_forgetExchanges, cX2_forgetExchanges, 1, none)
theorem kx_X2_forgetExchanges : Cond.code mX2_forgetExchanges.1 mX2_forgetExchanges.2.1 mX2_forgetExchanges.2.2.1 mX2_forgetExchanges.2.2.2 ∈ gw := tb_in (List.mem_of_getElem? (i := 102) (by decide +kernel)) rfl
theorem cw_X2_forgetExchanges {y : my} {index d2 : Nat} : Cw y mX2_forgetExchanges index 0 d2 := ⟨kx_X2_forgetExchanges, tb_in (List.mem_of_getElem? (i := 4) (by decide +kernel)) rfl, by decide +kernel, by decide⟩
theorem ki_X2_forgetExchanges : Cond.instanceMethod yX2_forgetExchanges ∈ gw := tb_in (List.mem_of_getElem? (i := 101) (by decide +kernel)) rfl
theorem ks_X2_forgetExchanges : Cond.selects RX2 yX2_forgetExchanges yX2_forgetExchanges ∈ gw := tb_sel (List.mem_of_getElem? (i := 2) (by decide +kernel)) rfl
abbrev mX2_isRight : my := (yX2_isRight, cX2_isRight, 2, (some .boolean))
theorem kx_X2_isRight : Cond.code mX2_isRight.1 mX2_isRight.2.1 mX2_isRight.2.2.1 mX2_isRight.2.2.2 ∈ gw := tb_in (List.mem_of_getElem? (i := 463) (by decide +kernel)) rfl
theorem cw_X2_isRight {y : my} {index d2 : Nat} : Cw y mX2_isRight index 0 d2 := ⟨kx_X2_isRight, tb_in (List.mem_of_getElem? (i := 4) (by decide +kernel)) rfl, by decide +kernel, by decide⟩
theorem ki_X2_isRight : Cond.instanceMethod yX2_isRight ∈ gw := tb_in (List.mem_of_getElem? (i := 462) (by decide +kernel)) rfl
theorem ks_X2_isRight : Cond.selects RX2 yX2_isRight yX2_isRight ∈ gw := tb_sel (List.mem_of_getElem? (i := 29) (by decide +kernel)) rfl
abbrev mX2_isFull : my := (yX2_isFull, cX2_isFull, 1, (some .boolean))
theorem kx_X2_isFull : Cond.code mX2_isFull.1 mX2_isFull.2.1 mX2_isFull.2.2.1 mX2_isFull.2.2.2 ∈ gw := tb_in (List.mem_of_getElem? (i := 475) (by decide +kernel)) rfl
theorem cw_X2_isFull {y : my} {index d2 : Nat} : Cw y mX2_isFull index 0 d2 := ⟨kx_X2_isFull, tb_in (List.mem_of_getElem? (i := 4) (by decide +kernel)) rfl, by decide +kernel, by decide⟩
theorem ki_X2_isFull : Cond.instanceMethod yX2_isFull ∈ gw := tb_in (List.mem_of_getElem? (i := 474) (by decide +kernel)) rfl
theorem ks_X2_isFull : Cond.selects RX2 yX2_isFull yX2_isFull ∈ gw := tb_sel (List.mem_of_getElem? (i := 31) (by decide +kernel)) rfl
abbrev mX2_leadOf : my := (yX2_leadOf, cX2_leadOf, 2, (some .int))
theorem kx_X2_leadOf : Cond.code mX2_leadOf.1 mX2_leadOf.2.1 mX2_leadOf.2.2.1 mX2_leadOf.2.2.2 ∈ gw := tb_in (List.mem_of_getElem? (i := 447) (by decide +kernel)) rfl
theorem cw_X2_leadOf {y : my} {index d2 : Nat} : Cw y mX2_leadOf index 1 d2 := ⟨kx_X2_leadOf, tb_in (List.mem_of_getElem? (i := 4) (by decide +kernel)) rfl, by decide +kernel, by decide⟩
theorem ki_X2_leadOf : Cond.instanceMethod yX2_leadOf ∈ gw := tb_in (List.mem_of_getElem? (i := 446) (by decide +kernel)) rfl
theorem ks_X2_leadOf : Cond.selects RX2 yX2_leadOf yX2_leadOf ∈ gw := tb_sel (List.mem_of_getElem? (i := 26) (by decide +kernel)) rfl
abbrev mX2_leads : my := (yX2_leads, cX2_leads, 2, (some (.array .int)))
theorem kx_X2_leads : Cond.code mX2_leads.1 mX2_leads.2.1 mX2_leads.2.2.1 mX2_leads.2.2.2 ∈ gw := tb_in (List.mem_of_getElem? (i := 451) (by decide +kernel)) rfl
theorem cw_X2_leads {y : my} {index d2 : Nat} : Cw y mX2_leads index 0 d2 := ⟨kx_X2_leads, tb_in (List.mem_of_getElem? (i := 4) (by decide +kernel)) rfl, by decide +kernel, by decide⟩
theorem ki_X2_leads : Cond.instanceMethod yX2_leads ∈ gw := tb_in (List.mem_of_getElem? (i := 450) (by decide +kernel)) rfl
theorem ks_X2_leads : Cond.selects RX2 yX2_leads yX2_leads ∈ gw := tb_sel (List.mem_of_getElem? (i := 27) (by decide +kernel)) rfl
abbrev mX2_fillComing : my := (yX2_fillComing, cX2_fillComing, 6, none)
theorem kx_X2_fillComing : Cond.code mX2_fillComing.1 mX2_fillComing.2.1 mX2_fillComing.2.2.1 mX2_fillComing.2.2.2 ∈ gw := tb_in (List.mem_of_getElem? (i := 455) (by decide +kernel)) rfl
theorem cw_X2_fillComing {y : my} {index d2 : Nat} : Cw y mX2_fillComing index 0 d2 := ⟨kx_X2_fillComing, tb_in (List.mem_of_getElem? (i := 4) (by decide +kernel)) rfl, by decide +kernel, by decide⟩
theorem ki_X2_fillComing : Cond.instanceMethod yX2_fillComing ∈ gw := tb_in (List.mem_of_getElem? (i := 454) (by decide +kernel)) rfl
theorem ks_X2_fillComing : Cond.selects RX2 yX2_fillComing yX2_fillComing ∈ gw := tb_sel (List.mem_of_getElem? (i := 28) (by decide +kernel)) rfl
abbrev mX2_numberCycles : my := (yX2_numberCycles, cX2_numberCycles, 2, none)
theorem kx_X2_numberCycles : Cond.code mX2_numberCycles.1 mX2_numberCycles.2.1 mX2_numberCycles.2.2.1 mX2_numberCycles.2.2.2 ∈ gw := tb_in (List.mem_of_getElem? (i := 491) (by decide +kernel)) rfl
theorem cw_X2_numberCycles {y : my} {index d2 : Nat} : Cw y mX2_numberCycles index 0 d2 := ⟨kx_X2_numberCycles, tb_in (List.mem_of_getElem? (i := 4) (by decide +kernel)) rfl, by decide +kernel, by decide⟩
theorem ki_X2_numberCycles : Cond.instanceMethod yX2_numberCycles ∈ gw := tb_in (List.mem_of_getElem? (i := 490) (by decide +kernel)) rfl
theorem ks_X2_numberCycles : Cond.selects RX2 yX2_numberCycles yX2_numberCycles ∈ gw := tb_sel (List.mem_of_getElem? (i := 35) (by decide +kernel)) rfl
abbrev mX2_markCycle : my := (yX2_markCycle, cX2_markCycle, 5, none)
theorem kx_X2_markCycle : Cond.code mX2_markCycle.1 mX2_markCycle.2.1 mX2_markCycle.2.2.1 mX2_markCycle.2.2.2 ∈ gw := tb_in (List.mem_of_getElem? (i := 496) (by decide +kernel)) rfl
theorem cw_X2_markCycle {y : my} {index d2 : Nat} : Cw y mX2_markCycle index 2 d2 := ⟨kx_X2_markCycle, tb_in (List.mem_of_getElem? (i := 4) (by decide +kernel)) rfl, by decide +kernel, by decide⟩
theorem ki_X2_markCycle : Cond.instanceMethod yX2_markCycle ∈ gw := tb_in (List.mem_of_getElem? (i := 495) (by decide +kernel)) rfl
theorem ks_X2_markCycle : Cond.selects RX2 yX2_markCycle yX2_markCycle ∈ gw := tb_sel (List.mem_of_getElem? (i := 36) (by decide +kernel)) rfl
abbrev mX2_howManyCycles : my := (yX2_howManyCycles, cX2_howManyCycles, 1, (some .int))
theorem kx_X2_howManyCycles : Cond.code mX2_howManyCycles.1 mX2_howManyCycles.2.1 mX2_howManyCycles.2.2.1 mX2_howManyCycles.2.2.2 ∈ gw := tb_in (List.mem_of_getElem? (i := 487) (by decide +kernel)) rfl
theorem cw_X2_howManyCycles {y : my} {index d2 : Nat} : Cw y mX2_howManyCycles index 0 d2 := ⟨kx_X2_howManyCycles, tb_in (List.mem_of_getElem? (i := 4) (by decide +kernel)) rfl, by decide +kernel, by decide⟩
theorem ki_X2_howManyCycles : Cond.instanceMethod yX2_howManyCycles ∈ gw := tb_in (List.mem_of_getElem? (i := 486) (by decide +kernel)) rfl
theorem ks_X2_howManyCycles : Cond.selects RX2 yX2_howManyCycles yX2_howManyCycles ∈ gw := tb_sel (List.mem_of_getElem? (i := 34) (by decide +kernel)) rfl
abbrev mX2_numberOfCycle : my := (yX2_numberOfCycle, cX2_numberOfCycle, 2, (some .int))
theorem kx_X2_numberOfCycle : Cond.code mX2_numberOfCycle.1 mX2_numberOfCycle.2.1 mX2_numberOfCycle.2.2.1 mX2_numberOfCycle.2.2.2 ∈ gw := tb_in (List.mem_of_getElem? (i := 529) (by decide +kernel)) rfl
theorem cw_X2_numberOfCycle {y : my} {index d2 : Nat} : Cw y mX2_numberOfCycle index 1 d2 := ⟨kx_X2_numberOfCycle, tb_in (List.mem_of_getElem? (i := 4) (by decide +kernel)) rfl, by decide +kernel, by decide⟩
theorem ki_X2_numberOfCycle : Cond.instanceMethod yX2_numberOfCycle ∈ gw := tb_in (List.mem_of_getElem? (i := 528) (by decide +kernel)) rfl
theorem ks_X2_numberOfCycle : Cond.selects RX2 yX2_numberOfCycle yX2_numberOfCycle ∈ gw := tb_sel (List.mem_of_getElem? (i := 41) (by decide +kernel)) rfl
abbrev mX2_leastOfCycle : my := (yX2_leastOfCycle, cX2_leastOfCycle, 2, (some .int))
theorem kx_X2_leastOfCycle : Cond.code mX2_leastOfCycle.1 mX2_leastOfCycle.2.1 mX2_leastOfCycle.2.2.1 mX2_leastOfCycle.2.2.2 ∈ gw := tb_in (List.mem_of_getElem? (i := 537) (by decide +kernel)) rfl
theorem cw_X2_leastOfCycle {y : my} {index d2 : Nat} : Cw y mX2_leastOfCycle index 1 d2 := ⟨kx_X2_leastOfCycle, tb_in (List.mem_of_getElem? (i := 4) (by decide +kernel)) rfl, by decide +kernel, by decide⟩
theorem ki_X2_leastOfCycle : Cond.instanceMethod yX2_leastOfCycle ∈ gw := tb_in (List.mem_of_getElem? (i := 536) (by decide +kernel)) rfl
theorem ks_X2_leastOfCycle : Cond.selects RX2 yX2_leastOfCycle yX2_leastOfCycle ∈ gw := tb_sel (List.mem_of_getElem? (i := 42) (by decide +kernel)) rfl
abbrev mX2_wordsOfCycle : my := (yX2_wordsOfCycle, cX2_wordsOfCycle, 5, (some .int))
theorem kx_X2_wordsOfCycle : Cond.code mX2_wordsOfCycle.1 mX2_wordsOfCycle.2.1 mX2_wordsOfCycle.2.2.1 mX2_wordsOfCycle.2.2.2 ∈ gw := tb_in (List.mem_of_getElem? (i := 541) (by decide +kernel)) rfl
theorem cw_X2_wordsOfCycle {y : my} {index d2 : Nat} : Cw y mX2_wordsOfCycle index 1 d2 := ⟨kx_X2_wordsOfCycle, tb_in (List.mem_of_getElem? (i := 4) (by decide +kernel)) rfl, by decide +kernel, by decide⟩
theorem ki_X2_wordsOfCycle : Cond.instanceMethod yX2_wordsOfCycle ∈ gw := tb_in (List.mem_of_getElem? (i := 540) (by decide +kernel)) rfl
theorem ks_X2_wordsOfCycle : Cond.selects RX2 yX2_wordsOfCycle yX2_wordsOfCycle ∈ gw := tb_sel (List.mem_of_getElem? (i := 43) (by decide +kernel)) rfl
abbrev mX2_makeExchange : my := (yX2_makeExchange, cX2_makeExchange, 3, (some .int))
theorem kx_X2_makeExchange : Cond.code mX2_makeExchange.1 mX2_makeExchange.2.1 mX2_makeExchange.2.2.1 mX2_makeExchange.2.2.2 ∈ gw := tb_in (List.mem_of_getElem? (i := 479) (by decide +kernel)) rfl
theorem cw_X2_makeExchange {y : my} {index d2 : Nat} : Cw y mX2_makeExchange index 2 d2 := ⟨kx_X2_makeExchange, tb_in (List.mem_of_getElem? (i := 4) (by decide +kernel)) rfl, by decide +kernel, by decide⟩
theorem ki_X2_makeExchange : Cond.instanceMethod yX2_makeExchange ∈ gw := tb_in (List.mem_of_getElem? (i := 478) (by decide +kernel)) rfl
theorem ks_X2_makeExchange : Cond.selects RX2 yX2_makeExchange yX2_makeExchange ∈ gw := tb_sel (List.mem_of_getElem? (i := 32) (by decide +kernel)) rfl
abbrev mX2_takeBack : my := (yX2_takeBack, cX2_takeBack, 1, (some .int))
theorem kx_X2_takeBack : Cond.code mX2_takeBack.1 mX2_takeBack.2.1 mX2_takeBack.2.2.1 mX2_takeBack.2.2.2 ∈ gw := tb_in (List.mem_of_getElem? (i := 516) (by decide +kernel)) rfl
theorem cw_X2_takeBack {y : my} {index d2 : Nat} : Cw y mX2_takeBack index 0 d2 := ⟨kx_X2_takeBack, tb_in (List.mem_of_getElem? (i := 4) (by decide +kernel)) rfl, by decide +kernel, by decide⟩
theorem ki_X2_takeBack : Cond.instanceMethod yX2_takeBack ∈ gw := tb_in (List.mem_of_getElem? (i := 515) (by decide +kernel)) rfl
theorem ks_X2_takeBack : Cond.selects RX2 yX2_takeBack yX2_takeBack ∈ gw := tb_sel (List.mem_of_getElem? (i := 40) (by decide +kernel)) rfl
abbrev mX2_noteExchange : my := (yX2_noteExchange, cX2_noteExchange, 3, none)
theorem kx_X2_noteExchange : Cond.code mX2_noteExchange.1 mX2_noteExchange.2.1 mX2_noteExchange.2.2.1 mX2_noteExchange.2.2.2 ∈ gw := tb_in (List.mem_of_getElem? (i := 508) (by decide +kernel)) rfl
theorem cw_X2_noteExchange {y : my} {index d2 : Nat} : Cw y mX2_noteExchange index 2 d2 := ⟨kx_X2_noteExchange, tb_in (List.mem_of_getElem? (i := 4) (by decide +kernel)) rfl, by decide +kernel, by decide⟩
theorem ki_X2_noteExchange : Cond.instanceMethod yX2_noteExchange ∈ gw := tb_in (List.mem_of_getElem? (i := 507) (by decide +kernel)) rfl
theorem ks_X2_noteExchange : Cond.selects RX2 yX2_noteExchange yX2_noteExchange ∈ gw := tb_sel (List.mem_of_getElem? (i := 39) (by decide +kernel)) rfl
abbrev mX2_swapLeads : my := (yX2_swapLeads, cX2_swapLeads, 4, none)
theorem kx_X2_swapLeads : Cond.code mX2_swapLeads.1 mX2_swapLeads.2.1 mX2_swapLeads.2.2.1 mX2_swapLeads.2.2.2 ∈ gw := tb_in (List.mem_of_getElem? (i := 504) (by decide +kernel)) rfl
theorem cw_X2_swapLeads {y : my} {index d2 : Nat} : Cw y mX2_swapLeads index 2 d2 := ⟨kx_X2_swapLeads, tb_in (List.mem_of_getElem? (i := 4) (by decide +kernel)) rfl, by decide +kernel, by decide⟩
theorem ki_X2_swapLeads : Cond.instanceMethod yX2_swapLeads ∈ gw := tb_in (List.mem_of_getElem? (i := 503) (by decide +kernel)) rfl
theorem ks_X2_swapLeads : Cond.selects RX2 yX2_swapLeads yX2_swapLeads ∈ gw := tb_sel (List.mem_of_getElem? (i := 38) (by decide +kernel)) rfl
abbrev mX2_countBehindExchange : my := (yX2_countBehindExchange, cX2_countBehindExchange, 4, (some .int))
theorem kx_X2_countBehindExchange : Cond.code mX2_countBehindExchange.1 mX2_countBehindExchange.2.1 mX2_countBehindExchange.2.2.1 mX2_countBehindExchange.2.2.2 ∈ gw := tb_in (List.mem_of_getElem? (i := 483) (by decide +kernel)) rfl
theorem cw_X2_countBehindExchange {y : my} {index d2 : Nat} : Cw y mX2_countBehindExchange index 2 d2 := ⟨kx_X2_countBehindExchange, tb_in (List.mem_of_getElem? (i := 4) (by decide +kernel)) rfl, by decide +kernel, by decide⟩
theorem ki_X2_countBehindExchange : Cond.instanceMethod yX2_countBehindExchange ∈ gw := tb_in (List.mem_of_getElem? (i := 482) (by decide +kernel)) rfl
theorem ks_X2_countBehindExchange : Cond.selects RX2 yX2_countBehindExchange yX2_countBehindExchange ∈ gw := tb_sel (List.mem_of_getElem? (i := 33) (by decide +kernel)) rfl
abbrev mX2_inOneCycle : my := (yX2_inOneCycle, cX2_inOneCycle, 5, (some .boolean))
theorem kx_X2_inOneCycle : Cond.code mX2_inOneCycle.1 mX2_inOneCycle.2.1 mX2_inOneCycle.2.2.1 mX2_inOneCycle.2.2.2 ∈ gw := tb_in (List.mem_of_getElem? (i := 500) (by decide +kernel)) rfl
theorem cw_X2_inOneCycle {y : my} {index d2 : Nat} : Cw y mX2_inOneCycle index 2 d2 := ⟨kx_X2_inOneCycle, tb_in (List.mem_of_getElem? (i := 4) (by decide +kernel)) rfl, by decide +kernel, by decide⟩
theorem ki_X2_inOneCycle : Cond.instanceMethod yX2_inOneCycle ∈ gw := tb_in (List.mem_of_getElem? (i := 499) (by decide +kernel)) rfl
theorem ks_X2_inOneCycle : Cond.selects RX2 yX2_inOneCycle yX2_inOneCycle ∈ gw := tb_sel (List.mem_of_getElem? (i := 37) (by decide +kernel)) rfl
abbrev mX2_joinCycles : my := (yX2_joinCycles, cX2_joinCycles, 4, (some .int))
theorem kx_X2_joinCycles : Cond.code mX2_joinCycles.1 mX2_joinCycles.2.1 mX2_joinCycles.2.2.1 mX2_joinCycles.2.2.2 ∈ gw := tb_in (List.mem_of_getElem? (i := 549) (by decide +kernel)) rfl
theorem cw_X2_joinCycles {y : my} {index d2 : Nat} : Cw y mX2_joinCycles index 0 d2 := ⟨kx_X2_joinCycles, tb_in (List.mem_of_getElem? (i := 4) (by decide +kernel)) rfl, by decide +kernel, by decide⟩
theorem ki_X2_joinCycles : Cond.instanceMethod yX2_joinCycles ∈ gw := tb_in (List.mem_of_getElem? (i := 548) (by decide +kernel)) rfl
theorem ks_X2_joinCycles : Cond.selects RX2 yX2_joinCycles yX2_joinCycles ∈ gw := tb_sel (List.mem_of_getElem? (i := 44) (by decide +kernel)) rfl
abbrev mX2_joinAt : my := (yX2_joinAt, cX2_joinAt, 6, (some .boolean))
theorem kx_X2_joinAt : Cond.code mX2_joinAt.1 mX2_joinAt.2.1 mX2_joinAt.2.2.1 mX2_joinAt.2.2.2 ∈ gw := tb_in (List.mem_of_getElem? (i := 553) (by decide +kernel)) rfl
theorem cw_X2_joinAt {y : my} {index d2 : Nat} : Cw y mX2_joinAt index 2 d2 := ⟨kx_X2_joinAt, tb_in (List.mem_of_getElem? (i := 4) (by decide +kernel)) rfl, by decide +kernel, by decide⟩
theorem ki_X2_joinAt : Cond.instanceMethod yX2_joinAt ∈ gw := tb_in (List.mem_of_getElem? (i := 552) (by decide +kernel)) rfl
theorem ks_X2_joinAt : Cond.selects RX2 yX2_joinAt yX2_joinAt ∈ gw := tb_sel (List.mem_of_getElem? (i := 45) (by decide +kernel)) rfl
abbrev mX3_init : my := (yX3_init, cX3_init, 2, none)
theorem kx_X3_init : Cond.code mX3_init.1 mX3_init.2.1 mX3_init.2.2.1 mX3_init.2.2.2 ∈ gw := tb_in (List.mem_of_getElem? (i := 71) (by decide +kernel)) rfl
theorem cw_X3_init {y : my} {index d2 : Nat} : Cw y mX3_init index 1 d2 := ⟨kx_X3_init, tb_in (List.mem_of_getElem? (i := 3) (by decide +kernel)) rfl, by decide +kernel, by decide⟩
theorem ki_X3_init : Cond.instanceMethod yX3_init ∈ gw := tb_in (List.mem_of_getElem? (i := 70) (by decide +kernel)) rfl
abbrev mX3_ringsUpTo : my := (yX3_ringsUpTo, cX3_ringsUpTo, 4, (some .int))
theorem kx_X3_ringsUpTo : Cond.code mX3_ringsUpTo.1 mX3_ringsUpTo.2.1 mX3_ringsUpTo.2.2.1 mX3_ringsUpTo.2.2.2 ∈ gw := tb_in (List.mem_of_getElem? (i := 347) (by decide +kernel)) rfl
theorem cw_X3_ringsUpTo {y : my} {index d2 : Nat} : Cw y mX3_ringsUpTo index 1 d2 := ⟨kx_X3_ringsUpTo, tb_in (List.mem_of_getElem? (i := 3) (by decide +kernel)) rfl, by decide +kernel, by decide⟩
theorem ki_X3_ringsUpTo : Cond.instanceMethod yX3_ringsUpTo ∈ gw := tb_in (List.mem_of_getElem? (i := 346) (by decide +kernel)) rfl
theorem ks_X3_ringsUpTo : Cond.selects RX3 yX3_ringsUpTo yX3_ringsUpTo ∈ gw := tb_sel (List.mem_of_getElem? (i := 11) (by decide +kernel)) rfl
abbrev mX3_greatestRepeated : my := (yX3_greatestRepeated, cX3_greatestRepeated, 6, (some .int))
theorem kx_X3_greatestRepeated : Cond.code mX3_greatestRepeated.1 mX3_greatestRepeated.2.1 mX3_greatestRepeated.2.2.1 mX3_greatestRepeated.2.2.2 ∈ gw := tb_in (List.mem_of_getElem? (i := 353) (by decide +kernel)) rfl
theorem cw_X3_greatestRepeated {y : my} {index d2 : Nat} : Cw y mX3_greatestRepeated index 2 d2 := ⟨kx_X3_greatestRepeated, tb_in (List.mem_of_getElem? (i := 3) (by decide +kernel)) rfl, by decide +kernel, by decide⟩
theorem ki_X3_greatestRepeated : Cond.instanceMethod yX3_greatestRepeated ∈ gw := tb_in (List.mem_of_getElem? (i := 352) (by decide +kernel)) rfl
theorem ks_X3_greatestRepeated : Cond.selects RX3 yX3_greatestRepeated yX3_greatestRepeated ∈ gw := tb_sel (List.mem_of_getElem? (i := 12) (by decide +kernel)) rfl
abbrev mX3_leastOfRing : my := (yX3_leastOfRing, cX3_leastOfRing, 6, (some .int))
theorem kx_X3_leastOfRing : Cond.code mX3_leastOfRing.1 mX3_leastOfRing.2.1 mX3_leastOfRing.2.2.1 mX3_leastOfRing.2.2.2 ∈ gw := tb_in (List.mem_of_getElem? (i := 392) (by decide +kernel)) rfl
theorem cw_X3_leastOfRing {y : my} {index d2 : Nat} : Cw y mX3_leastOfRing index 1 d2 := ⟨kx_X3_leastOfRing, tb_in (List.mem_of_getElem? (i := 3) (by decide +kernel)) rfl, by decide +kernel, by decide⟩
theorem ki_X3_leastOfRing : Cond.instanceMethod yX3_leastOfRing ∈ gw := tb_in (List.mem_of_getElem? (i := 391) (by decide +kernel)) rfl
theorem ks_X3_leastOfRing : Cond.selects RX3 yX3_leastOfRing yX3_leastOfRing ∈ gw := tb_sel (List.mem_of_getElem? (i := 18) (by decide +kernel)) rfl
abbrev mX3_wordsUpTo : my := (yX3_wordsUpTo, cX3_wordsUpTo, 5, (some .int))
theorem kx_X3_wordsUpTo : Cond.code mX3_wordsUpTo.1 mX3_wordsUpTo.2.1 mX3_wordsUpTo.2.2.1 mX3_wordsUpTo.2.2.2 ∈ gw := tb_in (List.mem_of_getElem? (i := 357) (by decide +kernel)) rfl
theorem cw_X3_wordsUpTo {y : my} {index d2 : Nat} : Cw y mX3_wordsUpTo index 2 d2 := ⟨kx_X3_wordsUpTo, tb_in (List.mem_of_getElem? (i := 3) (by decide +kernel)) rfl, by decide +kernel, by decide⟩
theorem ki_X3_wordsUpTo : Cond.instanceMethod yX3_wordsUpTo ∈ gw := tb_in (List.mem_of_getElem? (i := 356) (by decide +kernel)) rfl
theorem ks_X3_wordsUpTo : Cond.selects RX3 yX3_wordsUpTo yX3_wordsUpTo ∈ gw := tb_sel (List.mem_of_getElem? (i := 13) (by decide +kernel)) rfl
abbrev mX3_lowerToBeginning : my := (yX3_lowerToBeginning, cX3_lowerToBeginning, 5, none)
theorem kx_X3_lowerToBeginning : Cond.code mX3_lowerToBeginning.1 mX3_lowerToBeginning.2.1 mX3_lowerToBeginning.2.2.1 mX3_lowerToBeginning.2.2.2 ∈ gw := tb_in (List.mem_of_getElem? (i := 361) (by decide +kernel)) rfl
theorem cw_X3_lowerToBeginning {y : my} {index d2 : Nat} : Cw y mX3_lowerToBeginning index 1 d2 := ⟨kx_X3_lowerToBeginning, tb_in (List.mem_of_getElem? (i := 3) (by decide +kernel)) rfl, by decide +kernel, by decide⟩
theorem ki_X3_lowerToBeginning : Cond.instanceMethod yX3_lowerToBeginning ∈ gw := tb_in (List.mem_of_getElem? (i := 360) (by decide +kernel)) rfl
theorem ks_X3_lowerToBeginning : Cond.selects RX3 yX3_lowerToBeginning yX3_lowerToBeginning ∈ gw := tb_sel (List.mem_of_getElem? (i := 14) (by decide +kernel)) rfl
abbrev mX3_firstFault : my := (yX3_firstFault, cX3_firstFault, 4, (some .int))
theorem kx_X3_firstFault : Cond.code mX3_firstFault.1 mX3_firstFault.2.1 mX3_firstFault.2.2.1 mX3_firstFault.2.2.2 ∈ gw := tb_in (List.mem_of_getElem? (i := 365) (by decide +kernel)) rfl
theorem cw_X3_firstFault {y : my} {index d2 : Nat} : Cw y mX3_firstFault index 1 d2 := ⟨kx_X3_firstFault, tb_in (List.mem_of_getElem? (i := 3) (by decide +kernel)) rfl, by decide +kernel, by decide⟩
theorem ki_X3_firstFault : Cond.instanceMethod yX3_firstFault ∈ gw := tb_in (List.mem_of_getElem? (i := 364) (by decide +kernel)) rfl
theorem ks_X3_firstFault : Cond.selects RX3 yX3_firstFault yX3_firstFault ∈ gw := tb_sel (List.mem_of_getElem? (i := 15) (by decide +kernel)) rfl
abbrev mX3_wordsAboveRow : my := (yX3_wordsAboveRow, cX3_wordsAboveRow, 5, (some .int))
theorem kx_X3_wordsAboveRow : Cond.code mX3_wordsAboveRow.1 mX3_wordsAboveRow.2.1 mX3_wordsAboveRow.2.2.1 mX3_wordsAboveRow.2.2.2 ∈ gw := tb_in (List.mem_of_getElem? (i := 375) (by decide +kernel)) rfl
theorem cw_X3_wordsAboveRow {y : my} {index d2 : Nat} : Cw y mX3_wordsAboveRow index 1 d2 := ⟨kx_X3_wordsAboveRow, tb_in (List.mem_of_getElem? (i := 3) (by decide +kernel)) rfl, by decide +kernel, by decide⟩
theorem ki_X3_wordsAboveRow : Cond.instanceMethod yX3_wordsAboveRow ∈ gw := tb_in (List.mem_of_getElem? (i := 374) (by decide +kernel)) rfl
theorem ks_X3_wordsAboveRow : Cond.selects RX3 yX3_wordsAboveRow yX3_wordsAboveRow ∈ gw := tb_sel (List.mem_of_getElem? (i := 16) (by decide +kernel)) rfl
abbrev mX3_greaterThan : my := (yX3_greaterThan, cX3_greaterThan, 2, (some .int))
theorem kx_X3_greaterThan : Cond.code mX3_greaterThan.1 mX3_greaterThan.2.1 mX3_greaterThan.2.2.1 mX3_greaterThan.2.2.2 ∈ gw := tb_in (List.mem_of_getElem? (i := 379) (by decide +kernel)) rfl
theorem cw_X3_greaterThan {y : my} {index d2 : Nat} : Cw y mX3_greaterThan index 1 d2 := ⟨kx_X3_greaterThan, tb_in (List.mem_of_getElem? (i := 3) (by decide +kernel)) rfl, by decide +kernel, by decide⟩
theorem ki_X3_greaterThan : Cond.instanceMethod yX3_greaterThan ∈ gw := tb_in (List.mem_of_getElem? (i := 378) (by decide +kernel)) rfl
theorem ks_X3_greaterThan : Cond.selects RX3 yX3_greaterThan yX3_greaterThan ∈ gw := tb_sel (List.mem_of_getElem? (i := 17) (by decide +kernel)) rfl
abbrev mX3_takeAmounts : my := (yX3_takeAmounts, cX3_takeAmounts, 9, (some .boolean))
theorem kx_X3_takeAmounts : Cond.code mX3_takeAmounts.1 mX3_takeAmounts.2.1 mX3_takeAmounts.2.2.1 mX3_takeAmounts.2.2.2 ∈ gw := tb_in (List.mem_of_getElem? (i := 406) (by decide +kernel)) rfl
theorem cw_X3_takeAmounts {y : my} {index d2 : Nat} : Cw y mX3_takeAmounts index 5 d2 := ⟨kx_X3_takeAmounts, tb_in (List.mem_of_getElem? (i := 3) (by decide +kernel)) rfl, by decide +kernel, by decide⟩
theorem ki_X3_takeAmounts : Cond.instanceMethod yX3_takeAmounts ∈ gw := tb_in (List.mem_of_getElem? (i := 405) (by decide +kernel)) rfl
theorem ks_X3_takeAmounts : Cond.selects RX3 yX3_takeAmounts yX3_takeAmounts ∈ gw := tb_sel (List.mem_of_getElem? (i := 19) (by decide +kernel)) rfl
abbrev mX3_ringsOfAmounts : my := (yX3_ringsOfAmounts, cX3_ringsOfAmounts, 4, (some .int))
theorem kx_X3_ringsOfAmounts : Cond.code mX3_ringsOfAmounts.1 mX3_ringsOfAmounts.2.1 mX3_ringsOfAmounts.2.2.1 mX3_ringsOfAmounts.2.2.2 ∈ gw := tb_in (List.mem_of_getElem? (i := 414) (by decide +kernel)) rfl
theorem cw_X3_ringsOfAmounts {y : my} {index d2 : Nat} : Cw y mX3_ringsOfAmounts index 0 d2 := ⟨kx_X3_ringsOfAmounts, tb_in (List.mem_of_getElem? (i := 3) (by decide +kernel)) rfl, by decide +kernel, by decide⟩
theorem ki_X3_ringsOfAmounts : Cond.instanceMethod yX3_ringsOfAmounts ∈ gw := tb_in (List.mem_of_getElem? (i := 413) (by decide +kernel)) rfl
theorem ks_X3_ringsOfAmounts : Cond.selects RX3 yX3_ringsOfAmounts yX3_ringsOfAmounts ∈ gw := tb_sel (List.mem_of_getElem? (i := 21) (by decide +kernel)) rfl
abbrev mX3_allDivisible : my := (yX3_allDivisible, cX3_allDivisible, 3, (some .boolean))
theorem kx_X3_allDivisible : Cond.code mX3_allDivisible.1 mX3_allDivisible.2.1 mX3_allDivisible.2.2.1 mX3_allDivisible.2.2.2 ∈ gw := tb_in (List.mem_of_getElem? (i := 418) (by decide +kernel)) rfl
theorem cw_X3_allDivisible {y : my} {index d2 : Nat} : Cw y mX3_allDivisible index 1 d2 := ⟨kx_X3_allDivisible, tb_in (List.mem_of_getElem? (i := 3) (by decide +kernel)) rfl, by decide +kernel, by decide⟩
theorem ki_X3_allDivisible : Cond.instanceMethod yX3_allDivisible ∈ gw := tb_in (List.mem_of_getElem? (i := 417) (by decide +kernel)) rfl
theorem ks_X3_allDivisible : Cond.selects RX3 yX3_allDivisible yX3_allDivisible ∈ gw := tb_sel (List.mem_of_getElem? (i := 22) (by decide +kernel)) rfl
abbrev mX3_arrangements : my := (yX3_arrangements, cX3_arrangements, 7, (some .long))
theorem kx_X3_arrangements : Cond.code mX3_arrangements.1 mX3_arrangements.2.1 mX3_arrangements.2.2.1 mX3_arrangements.2.2.2 ∈ gw := tb_in (List.mem_of_getElem? (i := 422) (by decide +kernel)) rfl
theorem cw_X3_arrangements {y : my} {index d2 : Nat} : Cw y mX3_arrangements index 1 d2 := ⟨kx_X3_arrangements, tb_in (List.mem_of_getElem? (i := 3) (by decide +kernel)) rfl, by decide +kernel, by decide⟩
theorem ki_X3_arrangements : Cond.instanceMethod yX3_arrangements ∈ gw := tb_in (List.mem_of_getElem? (i := 421) (by decide +kernel)) rfl
theorem ks_X3_arrangements : Cond.selects RX3 yX3_arrangements yX3_arrangements ∈ gw := tb_sel (List.mem_of_getElem? (i := 23) (by decide +kernel)) rfl
abbrev mX4_init : my := (yX4_init, cX4_init, 2, none)
theorem kx_X4_init : Cond.code mX4_init.1 mX4_init.2.1 mX4_init.2.2.1 mX4_init.2.2.2 ∈ gw := tb_in (List.mem_of_getElem? (i := 151) (by decide +kernel)) rfl
theorem cw_X4_init {y : my} {index d2 : Nat} : Cw y mX4_init index 1 d2 := ⟨kx_X4_init, tb_in (List.mem_of_getElem? (i := 6) (by decide +kernel)) rfl, by decide +kernel, by decide⟩
theorem ki_X4_init : Cond.instanceMethod yX4_init ∈ gw := tb_in (List.mem_of_getElem? (i := 150) (by decide +kernel)) rfl
abbrev mX4_drop : my := (yX4_drop, cX4_drop, 1, none)
theorem kx_X4_drop : Cond.code mX4_drop.1 mX4_drop.2.1 mX4_drop.2.2.1 mX4_drop.2.2.2 ∈ gw := tb_in (List.mem_of_getElem? (i := 288) (by decide +kernel)) rfl
theorem cw_X4_drop {y : my} {index d2 : Nat} : Cw y mX4_drop index 0 d2 := ⟨kx_X4_drop, tb_in (List.mem_of_getElem? (i := 6) (by decide +kernel)) rfl, by decide +kernel, by decide⟩
theorem ki_X4_drop : Cond.instanceMethod yX4_drop ∈ gw := tb_in (List.mem_of_getElem? (i := 287) (by decide +kernel)) rfl
theorem ks_X4_drop : Cond.selects RX4 yX4_drop yX4_drop ∈ gw := tb_sel (List.mem_of_getElem? (i := 3) (by decide +kernel)) rfl
abbrev mX4_isThere : my := (yX4_isThere, cX4_isThere, 1, (some .boolean))
theorem kx_X4_isThere : Cond.code mX4_isThere.1 mX4_isThere.2.1 mX4_isThere.2.2.1 mX4_isThere.2.2.2 ∈ gw := tb_in (List.mem_of_getElem? (i := 599) (by decide +kernel)) rfl
theorem cw_X4_isThere {y : my} {index d2 : Nat} : Cw y mX4_isThere index 0 d2 := ⟨kx_X4_isThere, tb_in (List.mem_of_getElem? (i := 6) (by decide +kernel)) rfl, by decide +kernel, by decide⟩
theorem ki_X4_isThere : Cond.instanceMethod yX4_isThere ∈ gw := tb_in (List.mem_of_getElem? (i := 598) (by decide +kernel)) rfl
theorem ks_X4_isThere : Cond.selects RX4 yX4_isThere yX4_isThere ∈ gw := tb_sel (List.mem_of_getElem? (i := 53) (by decide +kernel)) rfl
abbrev mX4_isPlace : my := (yX4_isPlace, cX4_isPlace, 2, (some .boolean))
theorem kx_X4_isPlace : Cond.code mX4_isPlace.1 mX4_isPlace.2.1 mX4_isPlace.2.2.1 mX4_isPlace.2.2.2 ∈ gw := tb_in (List.mem_of_getElem? (i := 595) (by decide +kernel)) rfl
theorem cw_X4_isPlace {y : my} {index d2 : Nat} : Cw y mX4_isPlace index 1 d2 := ⟨kx_X4_isPlace, tb_in (List.mem_of_getElem? (i := 6) (by decide +kernel)) rfl, by decide +kernel, by decide⟩
theorem ki_X4_isPlace : Cond.instanceMethod yX4_isPlace ∈ gw := tb_in (List.mem_of_getElem? (i := 594) (by decide +kernel)) rfl
theorem ks_X4_isPlace : Cond.selects RX4 yX4_isPlace yX4_isPlace ∈ gw := tb_sel (List.mem_of_getElem? (i := 52) (by decide +kernel)) rfl
abbrev mX4_becomeLeast : my := (yX4_becomeLeast, cX4_becomeLeast, 5, none)
theorem kx_X4_becomeLeast : Cond.code mX4_becomeLeast.1 mX4_becomeLeast.2.1 mX4_becomeLeast.2.2.1 mX4_becomeLeast.2.2.2 ∈ gw := tb_in (List.mem_of_getElem? (i := 561) (by decide +kernel)) rfl
theorem cw_X4_becomeLeast {y : my} {index d2 : Nat} : Cw y mX4_becomeLeast index 0 d2 := ⟨kx_X4_becomeLeast, tb_in (List.mem_of_getElem? (i := 6) (by decide +kernel)) rfl, by decide +kernel, by decide⟩
theorem ki_X4_becomeLeast : Cond.instanceMethod yX4_becomeLeast ∈ gw := tb_in (List.mem_of_getElem? (i := 560) (by decide +kernel)) rfl
theorem ks_X4_becomeLeast : Cond.selects RX4 yX4_becomeLeast yX4_becomeLeast ∈ gw := tb_sel (List.mem_of_getElem? (i := 46) (by decide +kernel)) rfl
abbrev mX4_nextRow : my := (yX4_nextRow, cX4_nextRow, 3, (some .int))
theorem kx_X4_nextRow : Cond.code mX4_nextRow.1 mX4_nextRow.2.1 mX4_nextRow.2.2.1 mX4_nextRow.2.2.2 ∈ gw := tb_in (List.mem_of_getElem? (i := 566) (by decide +kernel)) rfl
theorem cw_X4_nextRow {y : my} {index d2 : Nat} : Cw y mX4_nextRow index 1 d2 := ⟨kx_X4_nextRow, tb_in (List.mem_of_getElem? (i := 6) (by decide +kernel)) rfl, by decide +kernel, by decide⟩
theorem ki_X4_nextRow : Cond.instanceMethod yX4_nextRow ∈ gw := tb_in (List.mem_of_getElem? (i := 565) (by decide +kernel)) rfl
theorem ks_X4_nextRow : Cond.selects RX4 yX4_nextRow yX4_nextRow ∈ gw := tb_sel (List.mem_of_getElem? (i := 47) (by decide +kernel)) rfl
abbrev mX4_findPlaces : my := (yX4_findPlaces, cX4_findPlaces, 4, none)
theorem kx_X4_findPlaces : Cond.code mX4_findPlaces.1 mX4_findPlaces.2.1 mX4_findPlaces.2.2.1 mX4_findPlaces.2.2.2 ∈ gw := tb_in (List.mem_of_getElem? (i := 570) (by decide +kernel)) rfl
theorem cw_X4_findPlaces {y : my} {index d2 : Nat} : Cw y mX4_findPlaces index 0 d2 := ⟨kx_X4_findPlaces, tb_in (List.mem_of_getElem? (i := 6) (by decide +kernel)) rfl, by decide +kernel, by decide⟩
theorem ki_X4_findPlaces : Cond.instanceMethod yX4_findPlaces ∈ gw := tb_in (List.mem_of_getElem? (i := 569) (by decide +kernel)) rfl
theorem ks_X4_findPlaces : Cond.selects RX4 yX4_findPlaces yX4_findPlaces ∈ gw := tb_sel (List.mem_of_getElem? (i := 48) (by decide +kernel)) rfl
abbrev mX4_becomeGreedy : my := (yX4_becomeGreedy, cX4_becomeGreedy, 4, none)
theorem kx_X4_becomeGreedy : Cond.code mX4_becomeGreedy.1 mX4_becomeGreedy.2.1 mX4_becomeGreedy.2.2.1 mX4_becomeGreedy.2.2.2 ∈ gw := tb_in (List.mem_of_getElem? (i := 574) (by decide +kernel)) rfl
theorem cw_X4_becomeGreedy {y : my} {index d2 : Nat} : Cw y mX4_becomeGreedy index 0 d2 := ⟨kx_X4_becomeGreedy, tb_in (List.mem_of_getElem? (i := 6) (by decide +kernel)) rfl, by decide +kernel, by decide⟩
theorem ki_X4_becomeGreedy : Cond.instanceMethod yX4_becomeGreedy ∈ gw := tb_in (List.mem_of_getElem? (i := 573) (by decide +kernel)) rfl
theorem ks_X4_becomeGreedy : Cond.selects RX4 yX4_becomeGreedy yX4_becomeGreedy ∈ gw := tb_sel (List.mem_of_getElem? (i := 49) (by decide +kernel)) rfl
abbrev mX4_greatestNew : my := (yX4_greatestNew, cX4_greatestNew, 3, (some .int))
theorem kx_X4_greatestNew : Cond.code mX4_greatestNew.1 mX4_greatestNew.2.1 mX4_greatestNew.2.2.1 mX4_greatestNew.2.2.2 ∈ gw := tb_in (List.mem_of_getElem? (i := 582) (by decide +kernel)) rfl
theorem cw_X4_greatestNew {y : my} {index d2 : Nat} : Cw y mX4_greatestNew index 1 d2 := ⟨kx_X4_greatestNew, tb_in (List.mem_of_getElem? (i := 6) (by decide +kernel)) rfl, by decide +kernel, by decide⟩
theorem ki_X4_greatestNew : Cond.instanceMethod yX4_greatestNew ∈ gw := tb_in (List.mem_of_getElem? (i := 581) (by decide +kernel)) rfl
theorem ks_X4_greatestNew : Cond.selects RX4 yX4_greatestNew yX4_greatestNew ∈ gw := tb_sel (List.mem_of_getElem? (i := 50) (by decide +kernel)) rfl
abbrev mX4_becomeCycle : my := (yX4_becomeCycle, cX4_becomeCycle, 4, none)
theorem kx_X4_becomeCycle : Cond.code mX4_becomeCycle.1 mX4_becomeCycle.2.1 mX4_becomeCycle.2.2.1 mX4_becomeCycle.2.2.2 ∈ gw := tb_in (List.mem_of_getElem? (i := 587) (by decide +kernel)) rfl
theorem cw_X4_becomeCycle {y : my} {index d2 : Nat} : Cw y mX4_becomeCycle index 1 d2 := ⟨kx_X4_becomeCycle, tb_in (List.mem_of_getElem? (i := 6) (by decide +kernel)) rfl, by decide +kernel, by decide⟩
theorem ki_X4_becomeCycle : Cond.instanceMethod yX4_becomeCycle ∈ gw := tb_in (List.mem_of_getElem? (i := 586) (by decide +kernel)) rfl
theorem ks_X4_becomeCycle : Cond.selects RX4 yX4_becomeCycle yX4_becomeCycle ∈ gw := tb_sel (List.mem_of_getElem? (i := 51) (by decide +kernel)) rfl
abbrev mX4_writeLetters : my := (yX4_writeLetters, cX4_writeLetters, 7, none)
theorem kx_X4_writeLetters : Cond.code mX4_writeLetters.1 mX4_writeLetters.2.1 mX4_writeLetters.2.2.1 mX4_writeLetters.2.2.2 ∈ gw := tb_in (List.mem_of_getElem? (i := 675) (by decide +kernel)) rfl
theorem cw_X4_writeLetters {y : my} {index d2 : Nat} : Cw y mX4_writeLetters index 4 d2 := ⟨kx_X4_writeLetters, tb_in (List.mem_of_getElem? (i := 6) (by decide +kernel)) rfl, by decide +kernel, by decide⟩
theorem ki_X4_writeLetters : Cond.instanceMethod yX4_writeLetters ∈ gw := tb_in (List.mem_of_getElem? (i := 674) (by decide +kernel)) rfl
theorem ks_X4_writeLetters : Cond.selects RX4 yX4_writeLetters yX4_writeLetters ∈ gw := tb_sel (List.mem_of_getElem? (i := 60) (by decide +kernel)) rfl
abbrev mX4_countMatches : my := (yX4_countMatches, cX4_countMatches, 14, (some .int))
theorem kx_X4_countMatches : Cond.code mX4_countMatches.1 mX4_countMatches.2.1 mX4_countMatches.2.2.1 mX4_countMatches.2.2.2 ∈ gw := tb_in (List.mem_of_getElem? (i := 683) (by decide +kernel)) rfl
theorem cw_X4_countMatches {y : my} {index d2 : Nat} : Cw y mX4_countMatches index 4 d2 := ⟨kx_X4_countMatches, tb_in (List.mem_of_getElem? (i := 6) (by decide +kernel)) rfl, by decide +kernel, by decide⟩
theorem ki_X4_countMatches : Cond.instanceMethod yX4_countMatches ∈ gw := tb_in (List.mem_of_getElem? (i := 682) (by decide +kernel)) rfl
theorem ks_X4_countMatches : Cond.selects RX4 yX4_countMatches yX4_countMatches ∈ gw := tb_sel (List.mem_of_getElem? (i := 61) (by decide +kernel)) rfl
abbrev mX4_noteSlips : my := (yX4_noteSlips, cX4_noteSlips, 7, none)
theorem kx_X4_noteSlips : Cond.code mX4_noteSlips.1 mX4_noteSlips.2.1 mX4_noteSlips.2.2.1 mX4_noteSlips.2.2.2 ∈ gw := tb_in (List.mem_of_getElem? (i := 687) (by decide +kernel)) rfl
theorem cw_X4_noteSlips {y : my} {index d2 : Nat} : Cw y mX4_noteSlips index 3 d2 := ⟨kx_X4_noteSlips, tb_in (List.mem_of_getElem? (i := 6) (by decide +kernel)) rfl, by decide +kernel, by decide⟩
theorem ki_X4_noteSlips : Cond.instanceMethod yX4_noteSlips ∈ gw := tb_in (List.mem_of_getElem? (i := 686) (by decide +kernel)) rfl
theorem ks_X4_noteSlips : Cond.selects RX4 yX4_noteSlips yX4_noteSlips ∈ gw := tb_sel (List.mem_of_getElem? (i := 62) (by decide +kernel)) rfl
abbrev mX4_noteFirstPlaces : my := (yX4_noteFirstPlaces, cX4_noteFirstPlaces, 4, (some .int))
theorem kx_X4_noteFirstPlaces : Cond.code mX4_noteFirstPlaces.1 mX4_noteFirstPlaces.2.1 mX4_noteFirstPlaces.2.2.1 mX4_noteFirstPlaces.2.2.2 ∈ gw := tb_in (List.mem_of_getElem? (i := 695) (by decide +kernel)) rfl
theorem cw_X4_noteFirstPlaces {y : my} {index d2 : Nat} : Cw y mX4_noteFirstPlaces index 1 d2 := ⟨kx_X4_noteFirstPlaces, tb_in (List.mem_of_getElem? (i := 6) (by decide +kernel)) rfl, by decide +kernel, by decide⟩
theorem ki_X4_noteFirstPlaces : Cond.instanceMethod yX4_noteFirstPlaces ∈ gw := tb_in (List.mem_of_getElem? (i := 694) (by decide +kernel)) rfl
theorem ks_X4_noteFirstPlaces : Cond.selects RX4 yX4_noteFirstPlaces yX4_noteFirstPlaces ∈ gw := tb_sel (List.mem_of_getElem? (i := 63) (by decide +kernel)) rfl
abbrev mX5_init : my := (yX5_init, cX5_init, 2, none)
theorem kx_X5_init : Cond.code mX5_init.1 mX5_init.2.1 mX5_init.2.2.1 mX5_init.2.2.2 ∈ gw := tb_in (List.mem_of_getElem? (i := 189) (by decide +kernel)) rfl
theorem cw_X5_init {y : my} {index d2 : Nat} : Cw y mX5_init index 1 d2 := ⟨kx_X5_init, tb_in (List.mem_of_getElem? (i := 7) (by decide +kernel)) rfl, by decide +kernel, by decide⟩
theorem ki_X5_init : Cond.instanceMethod yX5_init ∈ gw := tb_in (List.mem_of_getElem? (i := 188) (by decide +kernel)) rfl
abbrev mX5_isLost : my := (yX5_isLost, cX5_isLost, 1, (some .boolean))
theorem kx_X5_isLost : Cond.code mX5_isLost.1 mX5_isLost.2.1 mX5_isLost.2.2.1 mX5_isLost.2.2.2 ∈ gw := tb_in (List.mem_of_getElem? (i := 636) (by decide +kernel)) rfl
theorem cw_X5_isLost {y : my} {index d2 : Nat} : Cw y mX5_isLost index 0 d2 := ⟨kx_X5_isLost, tb_in (List.mem_of_getElem? (i := 7) (by decide +kernel)) rfl, by decide +kernel, by decide⟩
theorem ki_X5_isLost : Cond.instanceMethod yX5_isLost ∈ gw := tb_in (List.mem_of_getElem? (i := 635) (by decide +kernel)) rfl
theorem ks_X5_isLost : Cond.selects RX5 yX5_isLost yX5_isLost ∈ gw := tb_sel (List.mem_of_getElem? (i := 56) (by decide +kernel)) rfl
abbrev mX5_begin : my := (yX5_begin, cX5_begin, 3, none)
theorem kx_X5_begin : Cond.code mX5_begin.1 mX5_begin.2.1 mX5_begin.2.2.1 mX5_begin.2.2.2 ∈ gw := tb_in (List.mem_of_getElem? (i := 627) (by decide +kernel)) rfl
theorem cw_X5_begin {y : my} {index d2 : Nat} : Cw y mX5_begin index 2 d2 := ⟨kx_X5_begin, tb_in (List.mem_of_getElem? (i := 7) (by decide +kernel)) rfl, by decide +kernel, by decide⟩
theorem ki_X5_begin : Cond.instanceMethod yX5_begin ∈ gw := tb_in (List.mem_of_getElem? (i := 626) (by decide +kernel)) rfl
theorem ks_X5_begin : Cond.selects RX5 yX5_begin yX5_begin ∈ gw := tb_sel (List.mem_of_getElem? (i := 55) (by decide +kernel)) rfl
abbrev mX5_drop : my := (yX5_drop, cX5_drop, 1, (some .int))
theorem kx_X5_drop : Cond.code mX5_drop.1 mX5_drop.2.1 mX5_drop.2.2.1 mX5_drop.2.2.2 ∈ gw := tb_in (List.mem_of_getElem? (i := 640) (by decide +kernel)) rfl
theorem cw_X5_drop {y : my} {index d2 : Nat} : Cw y mX5_drop index 0 d2 := ⟨kx_X5_drop, tb_in (List.mem_of_getElem? (i := 7) (by decide +kernel)) rfl, by decide +kernel, by decide⟩
theorem ki_X5_drop : Cond.instanceMethod yX5_drop ∈ gw := tb_in (List.mem_of_getElem? (i := 639) (by decide +kernel)) rfl
theorem ks_X5_drop : Cond.selects RX5 yX5_drop yX5_drop ∈ gw := tb_sel (List.mem_of_getElem? (i := 57) (by decide +kernel)) rfl
abbrev mX5_hasItems : my := (yX5_hasItems, cX5_hasItems, 3, (some .boolean))
theorem kx_X5_hasItems : Cond.code mX5_hasItems.1 mX5_hasItems.2.1 mX5_hasItems.2.2.1 mX5_hasItems.2.2.2 ∈ gw := tb_in (List.mem_of_getElem? (i := 651) (by decide +kernel)) rfl
theorem cw_X5_hasItems {y : my} {index d2 : Nat} : Cw y mX5_hasItems index 2 d2 := ⟨kx_X5_hasItems, tb_in (List.mem_of_getElem? (i := 7) (by decide +kernel)) rfl, by decide +kernel, by decide⟩
theorem ki_X5_hasItems : Cond.instanceMethod yX5_hasItems ∈ gw := tb_in (List.mem_of_getElem? (i := 650) (by decide +kernel)) rfl
theorem ks_X5_hasItems : Cond.selects RX5 yX5_hasItems yX5_hasItems ∈ gw := tb_sel (List.mem_of_getElem? (i := 58) (by decide +kernel)) rfl
abbrev mX5_fitted : my := (yX5_fitted, cX5_fitted, 2, (some .int))
theorem kx_X5_fitted : Cond.code mX5_fitted.1 mX5_fitted.2.1 mX5_fitted.2.2.1 mX5_fitted.2.2.2 ∈ gw := tb_in (List.mem_of_getElem? (i := 655) (by decide +kernel)) rfl
theorem cw_X5_fitted {y : my} {index d2 : Nat} : Cw y mX5_fitted index 1 d2 := ⟨kx_X5_fitted, tb_in (List.mem_of_getElem? (i := 7) (by decide +kernel)) rfl, by decide +kernel, by decide⟩
theorem ki_X5_fitted : Cond.instanceMethod yX5_fitted ∈ gw := tb_in (List.mem_of_getElem? (i := 654) (by decide +kernel)) rfl
theorem ks_X5_fitted : Cond.selects RX5 yX5_fitted yX5_fitted ∈ gw := tb_sel (List.mem_of_getElem? (i := 59) (by decide +kernel)) rfl
abbrev mX5_hasBlanks : my := (yX5_hasBlanks, cX5_hasBlanks, 2, (some .boolean))
theorem kx_X5_hasBlanks : Cond.code mX5_hasBlanks.1 mX5_hasBlanks.2.1 mX5_hasBlanks.2.2.1 mX5_hasBlanks.2.2.2 ∈ gw := tb_in (List.mem_of_getElem? (i := 713) (by decide +kernel)) rfl
theorem cw_X5_hasBlanks {y : my} {index d2 : Nat} : Cw y mX5_hasBlanks index 0 d2 := ⟨kx_X5_hasBlanks, tb_in (List.mem_of_getElem? (i := 7) (by decide +kernel)) rfl, by decide +kernel, by decide⟩
theorem ki_X5_hasBlanks : Cond.instanceMethod yX5_hasBlanks ∈ gw := tb_in (List.mem_of_getElem? (i := 712) (by decide +kernel)) rfl
theorem ks_X5_hasBlanks : Cond.selects RX5 yX5_hasBlanks yX5_hasBlanks ∈ gw := tb_sel (List.mem_of_getElem? (i := 64) (by decide +kernel)) rfl
abbrev mX5_firstRepeated : my := (yX5_firstRepeated, cX5_firstRepeated, 3, (some .int))
theorem kx_X5_firstRepeated : Cond.code mX5_firstRepeated.1 mX5_firstRepeated.2.1 mX5_firstRepeated.2.2.1 mX5_firstRepeated.2.2.2 ∈ gw := tb_in (List.mem_of_getElem? (i := 718) (by decide +kernel)) rfl
theorem cw_X5_firstRepeated {y : my} {index d2 : Nat} : Cw y mX5_firstRepeated index 0 d2 := ⟨kx_X5_firstRepeated, tb_in (List.mem_of_getElem? (i := 7) (by decide +kernel)) rfl, by decide +kernel, by decide⟩
theorem ki_X5_firstRepeated : Cond.instanceMethod yX5_firstRepeated ∈ gw := tb_in (List.mem_of_getElem? (i := 717) (by decide +kernel)) rfl
theorem ks_X5_firstRepeated : Cond.selects RX5 yX5_firstRepeated yX5_firstRepeated ∈ gw := tb_sel (List.mem_of_getElem? (i := 65) (by decide +kernel)) rfl
abbrev mX5_wordAt : my := (yX5_wordAt, cX5_wordAt, 5, (some .int))
theorem kx_X5_wordAt : Cond.code mX5_wordAt.1 mX5_wordAt.2.1 mX5_wordAt.2.2.1 mX5_wordAt.2.2.2 ∈ gw := tb_in (List.mem_of_getElem? (i := 722) (by decide +kernel)) rfl
theorem cw_X5_wordAt {y : my} {index d2 : Nat} : Cw y mX5_wordAt index 1 d2 := ⟨kx_X5_wordAt, tb_in (List.mem_of_getElem? (i := 7) (by decide +kernel)) rfl, by decide +kernel, by decide⟩
theorem ki_X5_wordAt : Cond.instanceMethod yX5_wordAt ∈ gw := tb_in (List.mem_of_getElem? (i := 721) (by decide +kernel)) rfl
theorem ks_X5_wordAt : Cond.selects RX5 yX5_wordAt yX5_wordAt ∈ gw := tb_sel (List.mem_of_getElem? (i := 66) (by decide +kernel)) rfl
abbrev mX6_init : my := (yX6_init, cX6_init, 1, none)
theorem kx_X6_init : Cond.code mX6_init.1 mX6_init.2.1 mX6_init.2.2.1 mX6_init.2.2.2 ∈ gw := tb_in (List.mem_of_getElem? (i := 26) (by decide +kernel)) rfl
theorem cw_X6_init {y : my} {index d2 : Nat} : Cw y mX6_init index 0 d2 := ⟨kx_X6_init, tb_in (List.mem_of_getElem? (i := 2) (by decide +kernel)) rfl, by decide +kernel, by decide⟩
theorem ki_X6_init : Cond.instanceMethod yX6_init ∈ gw := tb_in (List.mem_of_getElem? (i := 25) (by decide +kernel)) rfl
abbrev mX6_howMany : my := (yX6_howMany, cX6_howMany, 4, (some .int))
theorem kx_X6_howMany : Cond.code mX6_howMany.1 mX6_howMany.2.1 mX6_howMany.2.2.1 mX6_howMany.2.2.2 ∈ gw := tb_in (List.mem_of_getElem? (i := 282) (by decide +kernel)) rfl
theorem cw_X6_howMany {y : my} {index d2 : Nat} : Cw y mX6_howMany index 2 d2 := ⟨kx_X6_howMany, tb_in (List.mem_of_getElem? (i := 2) (by decide +kernel)) rfl, by decide +kernel, by decide⟩
theorem kt_X6_howMany : Cond.static yX6_howMany ∈ gw := tb_in (List.mem_of_getElem? (i := 281) (by decide +kernel)) rfl
abbrev mX6_become : my := (yX6_become, cX6_become, 4, none)
theorem kx_X6_become : Cond.code mX6_become.1 mX6_become.2.1 mX6_become.2.2.1 mX6_become.2.2.2 ∈ gw := tb_in (List.mem_of_getElem? (i := 31) (by decide +kernel)) rfl
theorem cw_X6_become {y : my} {index d2 : Nat} : Cw y mX6_become index 2 d2 := ⟨kx_X6_become, tb_in (List.mem_of_getElem? (i := 2) (by decide +kernel)) rfl, by decide +kernel, by decide⟩
theorem ki_X6_become : Cond.instanceMethod yX6_become ∈ gw := tb_in (List.mem_of_getElem? (i := 30) (by decide +kernel)) rfl
theorem ks_X6_become : Cond.selects RX6 yX6_become yX6_become ∈ gw := tb_sel (List.mem_of_getElem? (i := 0) (by decide +kernel)) rfl
abbrev mX6_has : my := (yX6_has, cX6_has, 2, (some .boolean))
theorem kx_X6_has : Cond.code mX6_has.1 mX6_has.2.1 mX6_has.2.2.1 mX6_has.2.2.2 ∈ gw := tb_in (List.mem_of_getElem? (i := 296) (by decide +kernel)) rfl
theorem cw_X6_has {y : my} {index d2 : Nat} : Cw y mX6_has index 1 d2 := ⟨kx_X6_has, tb_in (List.mem_of_getElem? (i := 2) (by decide +kernel)) rfl, by decide +kernel, by decide⟩
theorem ki_X6_has : Cond.instanceMethod yX6_has ∈ gw := tb_in (List.mem_of_getElem? (i := 295) (by decide +kernel)) rfl
theorem ks_X6_has : Cond.selects RX6 yX6_has yX6_has ∈ gw := tb_sel (List.mem_of_getElem? (i := 4) (by decide +kernel)) rfl
abbrev mX6_isLetter : my := (yX6_isLetter, cX6_isLetter, 2, (some .boolean))
theorem kx_X6_isLetter : Cond.code mX6_isLetter.1 mX6_isLetter.2.1 mX6_isLetter.2.2.1 mX6_isLetter.2.2.2 ∈ gw := tb_in (List.mem_of_getElem? (i := 410) (by decide +kernel)) rfl
theorem cw_X6_isLetter {y : my} {index d2 : Nat} : Cw y mX6_isLetter index 1 d2 := ⟨kx_X6_isLetter, tb_in (List.mem_of_getElem? (i := 2) (by decide +kernel)) rfl, by decide +kernel, by decide⟩
theorem ki_X6_isLetter : Cond.instanceMethod yX6_isLetter ∈ gw := tb_in (List.mem_of_getElem? (i := 409) (by decide +kernel)) rfl
theorem ks_X6_isLetter : Cond.selects RX6 yX6_isLetter yX6_isLetter ∈ gw := tb_sel (List.mem_of_getElem? (i := 20) (by decide +kernel)) rfl
abbrev mX6_differInFirst : my := (yX6_differInFirst, cX6_differInFirst, 3, (some .boolean))
theorem kx_X6_differInFirst : Cond.code mX6_differInFirst.1 mX6_differInFirst.2.1 mX6_differInFirst.2.2.1 mX6_differInFirst.2.2.2 ∈ gw := tb_in (List.mem_of_getElem? (i := 471) (by decide +kernel)) rfl
theorem cw_X6_differInFirst {y : my} {index d2 : Nat} : Cw y mX6_differInFirst index 2 d2 := ⟨kx_X6_differInFirst, tb_in (List.mem_of_getElem? (i := 2) (by decide +kernel)) rfl, by decide +kernel, by decide⟩
theorem ki_X6_differInFirst : Cond.instanceMethod yX6_differInFirst ∈ gw := tb_in (List.mem_of_getElem? (i := 470) (by decide +kernel)) rfl
theorem ks_X6_differInFirst : Cond.selects RX6 yX6_differInFirst yX6_differInFirst ∈ gw := tb_sel (List.mem_of_getElem? (i := 30) (by decide +kernel)) rfl
abbrev mX6_turned : my := (yX6_turned, cX6_turned, 5, (some .int))
theorem kx_X6_turned : Cond.code mX6_turned.1 mX6_turned.2.1 mX6_turned.2.2.1 mX6_turned.2.2.2 ∈ gw := tb_in (List.mem_of_getElem? (i := 300) (by decide +kernel)) rfl
theorem cw_X6_turned {y : my} {index d2 : Nat} : Cw y mX6_turned index 2 d2 := ⟨kx_X6_turned, tb_in (List.mem_of_getElem? (i := 2) (by decide +kernel)) rfl, by decide +kernel, by decide⟩
theorem ki_X6_turned : Cond.instanceMethod yX6_turned ∈ gw := tb_in (List.mem_of_getElem? (i := 299) (by decide +kernel)) rfl
theorem ks_X6_turned : Cond.selects RX6 yX6_turned yX6_turned ∈ gw := tb_sel (List.mem_of_getElem? (i := 5) (by decide +kernel)) rfl
abbrev mX6_turnedOnce : my := (yX6_turnedOnce, cX6_turnedOnce, 2, (some .int))
theorem kx_X6_turnedOnce : Cond.code mX6_turnedOnce.1 mX6_turnedOnce.2.1 mX6_turnedOnce.2.2.1 mX6_turnedOnce.2.2.2 ∈ gw := tb_in (List.mem_of_getElem? (i := 312) (by decide +kernel)) rfl
theorem cw_X6_turnedOnce {y : my} {index d2 : Nat} : Cw y mX6_turnedOnce index 1 d2 := ⟨kx_X6_turnedOnce, tb_in (List.mem_of_getElem? (i := 2) (by decide +kernel)) rfl, by decide +kernel, by decide⟩
theorem ki_X6_turnedOnce : Cond.instanceMethod yX6_turnedOnce ∈ gw := tb_in (List.mem_of_getElem? (i := 311) (by decide +kernel)) rfl
theorem ks_X6_turnedOnce : Cond.selects RX6 yX6_turnedOnce yX6_turnedOnce ∈ gw := tb_sel (List.mem_of_getElem? (i := 7) (by decide +kernel)) rfl
abbrev mX6_leastOf : my := (yX6_leastOf, cX6_leastOf, 5, (some .int))
theorem kx_X6_leastOf : Cond.code mX6_leastOf.1 mX6_leastOf.2.1 mX6_leastOf.2.2.1 mX6_leastOf.2.2.2 ∈ gw := tb_in (List.mem_of_getElem? (i := 308) (by decide +kernel)) rfl
theorem cw_X6_leastOf {y : my} {index d2 : Nat} : Cw y mX6_leastOf index 1 d2 := ⟨kx_X6_leastOf, tb_in (List.mem_of_getElem? (i := 2) (by decide +kernel)) rfl, by decide +kernel, by decide⟩
theorem ki_X6_leastOf : Cond.instanceMethod yX6_leastOf ∈ gw := tb_in (List.mem_of_getElem? (i := 307) (by decide +kernel)) rfl
theorem ks_X6_leastOf : Cond.selects RX6 yX6_leastOf yX6_leastOf ∈ gw := tb_sel (List.mem_of_getElem? (i := 6) (by decide +kernel)) rfl
abbrev mX6_stepsToLeast : my := (yX6_stepsToLeast, cX6_stepsToLeast, 6, (some .int))
theorem kx_X6_stepsToLeast : Cond.code mX6_stepsToLeast.1 mX6_stepsToLeast.2.1 mX6_stepsToLeast.2.2.1 mX6_stepsToLeast.2.2.2 ∈ gw := tb_in (List.mem_of_getElem? (i := 323) (by decide +kernel)) rfl
theorem cw_X6_stepsToLeast {y : my} {index d2 : Nat} : Cw y mX6_stepsToLeast index 1 d2 := ⟨kx_X6_stepsToLeast, tb_in (List.mem_of_getElem? (i := 2) (by decide +kernel)) rfl, by decide +kernel, by decide⟩
theorem ki_X6_stepsToLeast : Cond.instanceMethod yX6_stepsToLeast ∈ gw := tb_in (List.mem_of_getElem? (i := 322) (by decide +kernel)) rfl
theorem ks_X6_stepsToLeast : Cond.selects RX6 yX6_stepsToLeast yX6_stepsToLeast ∈ gw := tb_sel (List.mem_of_getElem? (i := 8) (by decide +kernel)) rfl
abbrev mX6_ringSize : my := (yX6_ringSize, cX6_ringSize, 4, (some .int))
theorem kx_X6_ringSize : Cond.code mX6_ringSize.1 mX6_ringSize.2.1 mX6_ringSize.2.2.1 mX6_ringSize.2.2.2 ∈ gw := tb_in (List.mem_of_getElem? (i := 331) (by decide +kernel)) rfl
theorem cw_X6_ringSize {y : my} {index d2 : Nat} : Cw y mX6_ringSize index 1 d2 := ⟨kx_X6_ringSize, tb_in (List.mem_of_getElem? (i := 2) (by decide +kernel)) rfl, by decide +kernel, by decide⟩
theorem ki_X6_ringSize : Cond.instanceMethod yX6_ringSize ∈ gw := tb_in (List.mem_of_getElem? (i := 330) (by decide +kernel)) rfl
theorem ks_X6_ringSize : Cond.selects RX6 yX6_ringSize yX6_ringSize ∈ gw := tb_sel (List.mem_of_getElem? (i := 9) (by decide +kernel)) rfl
abbrev mX6_backward : my := (yX6_backward, cX6_backward, 5, (some .int))
theorem kx_X6_backward : Cond.code mX6_backward.1 mX6_backward.2.1 mX6_backward.2.2.1 mX6_backward.2.2.2 ∈ gw := tb_in (List.mem_of_getElem? (i := 339) (by decide +kernel)) rfl
theorem cw_X6_backward {y : my} {index d2 : Nat} : Cw y mX6_backward index 1 d2 := ⟨kx_X6_backward, tb_in (List.mem_of_getElem? (i := 2) (by decide +kernel)) rfl, by decide +kernel, by decide⟩
theorem ki_X6_backward : Cond.instanceMethod yX6_backward ∈ gw := tb_in (List.mem_of_getElem? (i := 338) (by decide +kernel)) rfl
theorem ks_X6_backward : Cond.selects RX6 yX6_backward yX6_backward ∈ gw := tb_sel (List.mem_of_getElem? (i := 10) (by decide +kernel)) rfl
abbrev mX7_init : my := (yX7_init, cX7_init, 2, none)
theorem kx_X7_init : Cond.code mX7_init.1 mX7_init.2.1 mX7_init.2.2.1 mX7_init.2.2.2 ∈ gw := tb_in (List.mem_of_getElem? (i := 18) (by decide +kernel)) rfl
theorem cw_X7_init {y : my} {index d2 : Nat} : Cw y mX7_init index 0 d2 := ⟨kx_X7_init, tb_in (List.mem_of_getElem? (i := 1) (by decide +kernel)) rfl, by decide +kernel, by decide⟩
theorem ki_X7_init : Cond.instanceMethod yX7_init ∈ gw := tb_in (List.mem_of_getElem? (i := 17) (by decide +kernel)) rfl
abbrev mX7_wheel : my := (yX7_wheel, cX7_wheel, 4, (some .int))
theorem kx_X7_wheel : Cond.code mX7_wheel.1 mX7_wheel.2.1 mX7_wheel.2.2.1 mX7_wheel.2.2.2 ∈ gw := tb_in (List.mem_of_getElem? (i := 279) (by decide +kernel)) rfl
theorem cw_X7_wheel {y : my} {index d2 : Nat} : Cw y mX7_wheel index 2 d2 := ⟨kx_X7_wheel, tb_in (List.mem_of_getElem? (i := 1) (by decide +kernel)) rfl, by decide +kernel, by decide⟩
theorem ki_X7_wheel : Cond.instanceMethod yX7_wheel ∈ gw := tb_in (List.mem_of_getElem? (i := 277) (by decide +kernel)) rfl
theorem ks_X7_wheel : Cond.selects RX7 yX7_wheel yX7_wheel ∈ gw := tb_in (List.mem_of_getElem? (i := 278) (by decide +kernel)) rfl
abbrev mX7_turn : my := (yX7_turn, cX7_turn, 3, (some .int))
theorem kx_X7_turn : Cond.code mX7_turn.1 mX7_turn.2.1 mX7_turn.2.2.1 mX7_turn.2.2.2 ∈ gw := tb_in (List.mem_of_getElem? (i := 292) (by decide +kernel)) rfl
theorem cw_X7_turn {y : my} {index d2 : Nat} : Cw y mX7_turn index 2 d2 := ⟨kx_X7_turn, tb_in (List.mem_of_getElem? (i := 1) (by decide +kernel)) rfl, by decide +kernel, by decide⟩
theorem ki_X7_turn : Cond.instanceMethod yX7_turn ∈ gw := tb_in (List.mem_of_getElem? (i := 290) (by decide +kernel)) rfl
theorem ks_X7_turn : Cond.selects RX7 yX7_turn yX7_turn ∈ gw := tb_in (List.mem_of_getElem? (i := 291) (by decide +kernel)) rfl
abbrev mX7_least : my := (yX7_least, cX7_least, 2, (some .int))
theorem kx_X7_least : Cond.code mX7_least.1 mX7_least.2.1 mX7_least.2.2.1 mX7_least.2.2.2 ∈ gw := tb_in (List.mem_of_getElem? (i := 304) (by decide +kernel)) rfl
theorem cw_X7_least {y : my} {index d2 : Nat} : Cw y mX7_least index 1 d2 := ⟨kx_X7_least, tb_in (List.mem_of_getElem? (i := 1) (by decide +kernel)) rfl, by decide +kernel, by decide⟩
theorem ki_X7_least : Cond.instanceMethod yX7_least ∈ gw := tb_in (List.mem_of_getElem? (i := 302) (by decide +kernel)) rfl
theorem ks_X7_least : Cond.selects RX7 yX7_least yX7_least ∈ gw := tb_in (List.mem_of_getElem? (i := 303) (by decide +kernel)) rfl
abbrev mX7_steps : my := (yX7_steps, cX7_steps, 2, (some .int))
theorem kx_X7_steps : Cond.code mX7_steps.1 mX7_steps.2.1 mX7_steps.2.2.1 mX7_steps.2.2.2 ∈ gw := tb_in (List.mem_of_getElem? (i := 319) (by decide +kernel)) rfl
theorem cw_X7_steps {y : my} {index d2 : Nat} : Cw y mX7_steps index 1 d2 := ⟨kx_X7_steps, tb_in (List.mem_of_getElem? (i := 1) (by decide +kernel)) rfl, by decide +kernel, by decide⟩
theorem ki_X7_steps : Cond.instanceMethod yX7_steps ∈ gw := tb_in (List.mem_of_getElem? (i := 317) (by decide +kernel)) rfl
theorem ks_X7_steps : Cond.selects RX7 yX7_steps yX7_steps ∈ gw := tb_in (List.mem_of_getElem? (i := 318) (by decide +kernel)) rfl
abbrev mX7_size : my := (yX7_size, cX7_size, 2, (some .int))
theorem kx_X7_size : Cond.code mX7_size.1 mX7_size.2.1 mX7_size.2.2.1 mX7_size.2.2.2 ∈ gw := tb_in (List.mem_of_getElem? (i := 327) (by decide +kernel)) rfl
theorem cw_X7_size {y : my} {index d2 : Nat} : Cw y mX7_size index 1 d2 := ⟨kx_X7_size, tb_in (List.mem_of_getElem? (i := 1) (by decide +kernel)) rfl, by decide +kernel, by decide⟩
theorem ki_X7_size : Cond.instanceMethod yX7_size ∈ gw := tb_in (List.mem_of_getElem? (i := 325) (by decide +kernel)) rfl
theorem ks_X7_size : Cond.selects RX7 yX7_size yX7_size ∈ gw := tb_in (List.mem_of_getElem? (i := 326) (by decide +kernel)) rfl
abbrev mX7_even : my := (yX7_even, cX7_even, 3, (some .int))
theorem kx_X7_even : Cond.code mX7_even.1 mX7_even.2.1 mX7_even.2.2.1 mX7_even.2.2.2 ∈ gw := tb_in (List.mem_of_getElem? (i := 335) (by decide +kernel)) rfl
theorem cw_X7_even {y : my} {index d2 : Nat} : Cw y mX7_even index 1 d2 := ⟨kx_X7_even, tb_in (List.mem_of_getElem? (i := 1) (by decide +kernel)) rfl, by decide +kernel, by decide⟩
theorem ki_X7_even : Cond.instanceMethod yX7_even ∈ gw := tb_in (List.mem_of_getElem? (i := 333) (by decide +kernel)) rfl
theorem ks_X7_even : Cond.selects RX7 yX7_even yX7_even ∈ gw := tb_in (List.mem_of_getElem? (i := 334) (by decide +kernel)) rfl
abbrev mX7_rings : my := (yX7_rings, cX7_rings, 1, (some .int))
theorem kx_X7_rings : Cond.code mX7_rings.1 mX7_rings.2.1 mX7_rings.2.2.1 mX7_rings.2.2.2 ∈ gw := tb_in (List.mem_of_getElem? (i := 343) (by decide +kernel)) rfl
theorem cw_X7_rings {y : my} {index d2 : Nat} : Cw y mX7_rings index 0 d2 := ⟨kx_X7_rings, tb_in (List.mem_of_getElem? (i := 1) (by decide +kernel)) rfl, by decide +kernel, by decide⟩
theorem ki_X7_rings : Cond.instanceMethod yX7_rings ∈ gw := tb_in (List.mem_of_getElem? (i := 341) (by decide +kernel)) rfl
theorem ks_X7_rings : Cond.selects RX7 yX7_rings yX7_rings ∈ gw := tb_in (List.mem_of_getElem? (i := 342) (by decide +kernel)) rfl
abbrev mX7_ringOf : my := (yX7_ringOf, cX7_ringOf, 2, (some .int))
theorem kx_X7_ringOf : Cond.code mX7_ringOf.1 mX7_ringOf.2.1 mX7_ringOf.2.2.1 mX7_ringOf.2.2.2 ∈ gw := tb_in (List.mem_of_getElem? (i := 383) (by decide +kernel)) rfl
theorem cw_X7_ringOf {y : my} {index d2 : Nat} : Cw y mX7_ringOf index 1 d2 := ⟨kx_X7_ringOf, tb_in (List.mem_of_getElem? (i := 1) (by decide +kernel)) rfl, by decide +kernel, by decide⟩
theorem ki_X7_ringOf : Cond.instanceMethod yX7_ringOf ∈ gw := tb_in (List.mem_of_getElem? (i := 381) (by decide +kernel)) rfl
theorem ks_X7_ringOf : Cond.selects RX7 yX7_ringOf yX7_ringOf ∈ gw := tb_in (List.mem_of_getElem? (i := 382) (by decide +kernel)) rfl
abbrev mX7_ring : my := (yX7_ring, cX7_ring, 2, (some .int))
theorem kx_X7_ring : Cond.code mX7_ring.1 mX7_ring.2.1 mX7_ring.2.2.1 mX7_ring.2.2.2 ∈ gw := tb_in (List.mem_of_getElem? (i := 387) (by decide +kernel)) rfl
theorem cw_X7_ring {y : my} {index d2 : Nat} : Cw y mX7_ring index 1 d2 := ⟨kx_X7_ring, tb_in (List.mem_of_getElem? (i := 1) (by decide +kernel)) rfl, by decide +kernel, by decide⟩
theorem ki_X7_ring : Cond.instanceMethod yX7_ring ∈ gw := tb_in (List.mem_of_getElem? (i := 385) (by decide +kernel)) rfl
theorem ks_X7_ring : Cond.selects RX7 yX7_ring yX7_ring ∈ gw := tb_in (List.mem_of_getElem? (i := 386) (by decide +kernel)) rfl
abbrev mX7_below : my := (yX7_below, cX7_below, 2, (some .int))
theorem kx_X7_below : Cond.code mX7_below.1 mX7_below.2.1 mX7_below.2.2.1 mX7_below.2.2.2 ∈ gw := tb_in (List.mem_of_getElem? (i := 397) (by decide +kernel)) rfl
theorem cw_X7_below {y : my} {index d2 : Nat} : Cw y mX7_below index 1 d2 := ⟨kx_X7_below, tb_in (List.mem_of_getElem? (i := 1) (by decide +kernel)) rfl, by decide +kernel, by decide⟩
theorem ki_X7_below : Cond.instanceMethod yX7_below ∈ gw := tb_in (List.mem_of_getElem? (i := 395) (by decide +kernel)) rfl
theorem ks_X7_below : Cond.selects RX7 yX7_below yX7_below ∈ gw := tb_in (List.mem_of_getElem? (i := 396) (by decide +kernel)) rfl
abbrev mX7_content : my := (yX7_content, cX7_content, 6, (some .int))
theorem kx_X7_content : Cond.code mX7_content.1 mX7_content.2.1 mX7_content.2.2.1 mX7_content.2.2.2 ∈ gw := tb_in (List.mem_of_getElem? (i := 402) (by decide +kernel)) rfl
theorem cw_X7_content {y : my} {index d2 : Nat} : Cw y mX7_content index 5 d2 := ⟨kx_X7_content, tb_in (List.mem_of_getElem? (i := 1) (by decide +kernel)) rfl, by decide +kernel, by decide⟩
theorem ki_X7_content : Cond.instanceMethod yX7_content ∈ gw := tb_in (List.mem_of_getElem? (i := 400) (by decide +kernel)) rfl
theorem ks_X7_content : Cond.selects RX7 yX7_content yX7_content ∈ gw := tb_in (List.mem_of_getElem? (i := 401) (by decide +kernel)) rfl
abbrev mX7_factor : my := (yX7_factor, cX7_factor, 3, (some .int))
theorem kx_X7_factor : Cond.code mX7_factor.1 mX7_factor.2.1 mX7_factor.2.2.1 mX7_factor.2.2.2 ∈ gw := tb_in (List.mem_of_getElem? (i := 426) (by decide +kernel)) rfl
theorem cw_X7_factor {y : my} {index d2 : Nat} : Cw y mX7_factor index 2 d2 := ⟨kx_X7_factor, tb_in (List.mem_of_getElem? (i := 1) (by decide +kernel)) rfl, by decide +kernel, by decide⟩
theorem ki_X7_factor : Cond.instanceMethod yX7_factor ∈ gw := tb_in (List.mem_of_getElem? (i := 424) (by decide +kernel)) rfl
theorem ks_X7_factor : Cond.selects RX7 yX7_factor yX7_factor ∈ gw := tb_in (List.mem_of_getElem? (i := 425) (by decide +kernel)) rfl
abbrev mX7_sum : my := (yX7_sum, cX7_sum, 2, (some .int))
theorem kx_X7_sum : Cond.code mX7_sum.1 mX7_sum.2.1 mX7_sum.2.2.1 mX7_sum.2.2.2 ∈ gw := tb_in (List.mem_of_getElem? (i := 435) (by decide +kernel)) rfl
theorem cw_X7_sum {y : my} {index d2 : Nat} : Cw y mX7_sum index 1 d2 := ⟨kx_X7_sum, tb_in (List.mem_of_getElem? (i := 1) (by decide +kernel)) rfl, by decide +kernel, by decide⟩
theorem ki_X7_sum : Cond.instanceMethod yX7_sum ∈ gw := tb_in (List.mem_of_getElem? (i := 433) (by decide +kernel)) rfl
theorem ks_X7_sum : Cond.selects RX7 yX7_sum yX7_sum ∈ gw := tb_in (List.mem_of_getElem? (i := 434) (by decide +kernel)) rfl
abbrev mX7_go : my := (yX7_go, cX7_go, 2, (some .int))
theorem kx_X7_go : Cond.code mX7_go.1 mX7_go.2.1 mX7_go.2.2.1 mX7_go.2.2.2 ∈ gw := tb_in (List.mem_of_getElem? (i := 443) (by decide +kernel)) rfl
theorem cw_X7_go {y : my} {index d2 : Nat} : Cw y mX7_go index 1 d2 := ⟨kx_X7_go, tb_in (List.mem_of_getElem? (i := 1) (by decide +kernel)) rfl, by decide +kernel, by decide⟩
theorem ki_X7_go : Cond.instanceMethod yX7_go ∈ gw := tb_in (List.mem_of_getElem? (i := 441) (by decide +kernel)) rfl
theorem ks_X7_go : Cond.selects RX7 yX7_go yX7_go ∈ gw := tb_in (List.mem_of_getElem? (i := 442) (by decide +kernel)) rfl
abbrev mX7_right : my := (yX7_right, cX7_right, 1, (some .int))
theorem kx_X7_right : Cond.code mX7_right.1 mX7_right.2.1 mX7_right.2.2.1 mX7_right.2.2.2 ∈ gw := tb_in (List.mem_of_getElem? (i := 459) (by decide +kernel)) rfl
theorem cw_X7_right {y : my} {index d2 : Nat} : Cw y mX7_right index 0 d2 := ⟨kx_X7_right, tb_in (List.mem_of_getElem? (i := 1) (by decide +kernel)) rfl, by decide +kernel, by decide⟩
theorem ki_X7_right : Cond.instanceMethod yX7_right ∈ gw := tb_in (List.mem_of_getElem? (i := 457) (by decide +kernel)) rfl
theorem ks_X7_right : Cond.selects RX7 yX7_right yX7_right ∈ gw := tb_in (List.mem_of_getElem? (i := 458) (by decide +kernel)) rfl
abbrev mX7_exchange : my := (yX7_exchange, cX7_exchange, 3, (some .int))
theorem kx_X7_exchange : Cond.code mX7_exchange.1 mX7_exchange.2.1 mX7_exchange.2.2.1 mX7_exchange.2.2.2 ∈ gw := tb_in (List.mem_of_getElem? (i := 467) (by decide +kernel)) rfl
theorem cw_X7_exchange {y : my} {index d2 : Nat} : Cw y mX7_exchange index 2 d2 := ⟨kx_X7_exchange, tb_in (List.mem_of_getElem? (i := 1) (by decide +kernel)) rfl, by decide +kernel, by decide⟩
theorem ki_X7_exchange : Cond.instanceMethod yX7_exchange ∈ gw := tb_in (List.mem_of_getElem? (i := 465) (by decide +kernel)) rfl
theorem ks_X7_exchange : Cond.selects RX7 yX7_exchange yX7_exchange ∈ gw := tb_in (List.mem_of_getElem? (i := 466) (by decide +kernel)) rfl
abbrev mX7_back : my := (yX7_back, cX7_back, 1, (some .int))
theorem kx_X7_back : Cond.code mX7_back.1 mX7_back.2.1 mX7_back.2.2.1 mX7_back.2.2.2 ∈ gw := tb_in (List.mem_of_getElem? (i := 512) (by decide +kernel)) rfl
theorem cw_X7_back {y : my} {index d2 : Nat} : Cw y mX7_back index 0 d2 := ⟨kx_X7_back, tb_in (List.mem_of_getElem? (i := 1) (by decide +kernel)) rfl, by decide +kernel, by decide⟩
theorem ki_X7_back : Cond.instanceMethod yX7_back ∈ gw := tb_in (List.mem_of_getElem? (i := 510) (by decide +kernel)) rfl
theorem ks_X7_back : Cond.selects RX7 yX7_back yX7_back ∈ gw := tb_in (List.mem_of_getElem? (i := 511) (by decide +kernel)) rfl
abbrev mX7_cycles : my := (yX7_cycles, cX7_cycles, 1, (some .int))
theorem kx_X7_cycles : Cond.code mX7_cycles.1 mX7_cycles.2.1 mX7_cycles.2.2.1 mX7_cycles.2.2.2 ∈ gw := tb_in (List.mem_of_getElem? (i := 520) (by decide +kernel)) rfl
theorem cw_X7_cycles {y : my} {index d2 : Nat} : Cw y mX7_cycles index 0 d2 := ⟨kx_X7_cycles, tb_in (List.mem_of_getElem? (i := 1) (by decide +kernel)) rfl, by decide +kernel, by decide⟩
theorem ki_X7_cycles : Cond.instanceMethod yX7_cycles ∈ gw := tb_in (List.mem_of_getElem? (i := 518) (by decide +kernel)) rfl
theorem ks_X7_cycles : Cond.selects RX7 yX7_cycles yX7_cycles ∈ gw := tb_in (List.mem_of_getElem? (i := 519) (by decide +kernel)) rfl
abbrev mX7_cycleOf : my := (yX7_cycleOf, cX7_cycleOf, 2, (some .int))
theorem kx_X7_cycleOf : Cond.code mX7_cycleOf.1 mX7_cycleOf.2.1 mX7_cycleOf.2.2.1 mX7_cycleOf.2.2.2 ∈ gw := tb_in (List.mem_of_getElem? (i := 525) (by decide +kernel)) rfl
theorem cw_X7_cycleOf {y : my} {index d2 : Nat} : Cw y mX7_cycleOf index 1 d2 := ⟨kx_X7_cycleOf, tb_in (List.mem_of_getElem? (i := 1) (by decide +kernel)) rfl, by decide +kernel, by decide⟩
theorem ki_X7_cycleOf : Cond.instanceMethod yX7_cycleOf ∈ gw := tb_in (List.mem_of_getElem? (i := 523) (by decide +kernel)) rfl
theorem ks_X7_cycleOf : Cond.selects RX7 yX7_cycleOf yX7_cycleOf ∈ gw := tb_in (List.mem_of_getElem? (i := 524) (by decide +kernel)) rfl
abbrev mX7_cycle : my := (yX7_cycle, cX7_cycle, 3, (some .int))
theorem kx_X7_cycle : Cond.code mX7_cycle.1 mX7_cycle.2.1 mX7_cycle.2.2.1 mX7_cycle.2.2.2 ∈ gw := tb_in (List.mem_of_getElem? (i := 533) (by decide +kernel)) rfl
theorem cw_X7_cycle {y : my} {index d2 : Nat} : Cw y mX7_cycle index 2 d2 := ⟨kx_X7_cycle, tb_in (List.mem_of_getElem? (i := 1) (by decide +kernel)) rfl, by decide +kernel, by decide⟩
theorem ki_X7_cycle : Cond.instanceMethod yX7_cycle ∈ gw := tb_in (List.mem_of_getElem? (i := 531) (by decide +kernel)) rfl
theorem ks_X7_cycle : Cond.selects RX7 yX7_cycle yX7_cycle ∈ gw := tb_in (List.mem_of_getElem? (i := 532) (by decide +kernel)) rfl
abbrev mX7_join : my := (yX7_join, cX7_join, 1, (some .int))
theorem kx_X7_join : Cond.code mX7_join.1 mX7_join.2.1 mX7_join.2.2.1 mX7_join.2.2.2 ∈ gw := tb_in (List.mem_of_getElem? (i := 545) (by decide +kernel)) rfl
theorem cw_X7_join {y : my} {index d2 : Nat} : Cw y mX7_join index 0 d2 := ⟨kx_X7_join, tb_in (List.mem_of_getElem? (i := 1) (by decide +kernel)) rfl, by decide +kernel, by decide⟩
theorem ki_X7_join : Cond.instanceMethod yX7_join ∈ gw := tb_in (List.mem_of_getElem? (i := 543) (by decide +kernel)) rfl
theorem ks_X7_join : Cond.selects RX7 yX7_join yX7_join ∈ gw := tb_in (List.mem_of_getElem? (i := 544) (by decide +kernel)) rfl
abbrev mX7_round : my := (yX7_round, cX7_round, 2, (some .int))
theorem kx_X7_round : Cond.code mX7_round.1 mX7_round.2.1 mX7_round.2.2.1 mX7_round.2.2.2 ∈ gw := tb_in (List.mem_of_getElem? (i := 557) (by decide +kernel)) rfl
theorem cw_X7_round {y : my} {index d2 : Nat} : Cw y mX7_round index 1 d2 := ⟨kx_X7_round, tb_in (List.mem_of_getElem? (i := 1) (by decide +kernel)) rfl, by decide +kernel, by decide⟩
theorem ki_X7_round : Cond.instanceMethod yX7_round ∈ gw := tb_in (List.mem_of_getElem? (i := 555) (by decide +kernel)) rfl
theorem ks_X7_round : Cond.selects RX7 yX7_round yX7_round ∈ gw := tb_in (List.mem_of_getElem? (i := 556) (by decide +kernel)) rfl
abbrev mX7_letter : my := (yX7_letter, cX7_letter, 2, (some .int))
theorem kx_X7_letter : Cond.code mX7_letter.1 mX7_letter.2.1 mX7_letter.2.2.1 mX7_letter.2.2.2 ∈ gw := tb_in (List.mem_of_getElem? (i := 591) (by decide +kernel)) rfl
theorem cw_X7_letter {y : my} {index d2 : Nat} : Cw y mX7_letter index 1 d2 := ⟨kx_X7_letter, tb_in (List.mem_of_getElem? (i := 1) (by decide +kernel)) rfl, by decide +kernel, by decide⟩
theorem ki_X7_letter : Cond.instanceMethod yX7_letter ∈ gw := tb_in (List.mem_of_getElem? (i := 589) (by decide +kernel)) rfl
theorem ks_X7_letter : Cond.selects RX7 yX7_letter yX7_letter ∈ gw := tb_in (List.mem_of_getElem? (i := 590) (by decide +kernel)) rfl
abbrev mX7_place : my := (yX7_place, cX7_place, 2, (some .int))
theorem kx_X7_place : Cond.code mX7_place.1 mX7_place.2.1 mX7_place.2.2.1 mX7_place.2.2.2 ∈ gw := tb_in (List.mem_of_getElem? (i := 604) (by decide +kernel)) rfl
theorem cw_X7_place {y : my} {index d2 : Nat} : Cw y mX7_place index 1 d2 := ⟨kx_X7_place, tb_in (List.mem_of_getElem? (i := 1) (by decide +kernel)) rfl, by decide +kernel, by decide⟩
theorem ki_X7_place : Cond.instanceMethod yX7_place ∈ gw := tb_in (List.mem_of_getElem? (i := 602) (by decide +kernel)) rfl
theorem ks_X7_place : Cond.selects RX7 yX7_place yX7_place ∈ gw := tb_in (List.mem_of_getElem? (i := 603) (by decide +kernel)) rfl
abbrev mX7_way : my := (yX7_way, cX7_way, 3, (some .int))
theorem kx_X7_way : Cond.code mX7_way.1 mX7_way.2.1 mX7_way.2.2.1 mX7_way.2.2.2 ∈ gw := tb_in (List.mem_of_getElem? (i := 609) (by decide +kernel)) rfl
theorem cw_X7_way {y : my} {index d2 : Nat} : Cw y mX7_way index 2 d2 := ⟨kx_X7_way, tb_in (List.mem_of_getElem? (i := 1) (by decide +kernel)) rfl, by decide +kernel, by decide⟩
theorem ki_X7_way : Cond.instanceMethod yX7_way ∈ gw := tb_in (List.mem_of_getElem? (i := 607) (by decide +kernel)) rfl
theorem ks_X7_way : Cond.selects RX7 yX7_way yX7_way ∈ gw := tb_in (List.mem_of_getElem? (i := 608) (by decide +kernel)) rfl
abbrev mX7_tape : my := (yX7_tape, cX7_tape, 4, (some .int))
theorem kx_X7_tape : Cond.code mX7_tape.1 mX7_tape.2.1 mX7_tape.2.2.1 mX7_tape.2.2.2 ∈ gw := tb_in (List.mem_of_getElem? (i := 613) (by decide +kernel)) rfl
theorem cw_X7_tape {y : my} {index d2 : Nat} : Cw y mX7_tape index 3 d2 := ⟨kx_X7_tape, tb_in (List.mem_of_getElem? (i := 1) (by decide +kernel)) rfl, by decide +kernel, by decide⟩
theorem ki_X7_tape : Cond.instanceMethod yX7_tape ∈ gw := tb_in (List.mem_of_getElem? (i := 611) (by decide +kernel)) rfl
theorem ks_X7_tape : Cond.selects RX7 yX7_tape yX7_tape ∈ gw := tb_in (List.mem_of_getElem? (i := 612) (by decide +kernel)) rfl
abbrev mX7_lose : my := (yX7_lose, cX7_lose, 2, (some .int))
theorem kx_X7_lose : Cond.code mX7_lose.1 mX7_lose.2.1 mX7_lose.2.2.1 mX7_lose.2.2.2 ∈ gw := tb_in (List.mem_of_getElem? (i := 632) (by decide +kernel)) rfl
theorem cw_X7_lose {y : my} {index d2 : Nat} : Cw y mX7_lose index 1 d2 := ⟨kx_X7_lose, tb_in (List.mem_of_getElem? (i := 1) (by decide +kernel)) rfl, by decide +kernel, by decide⟩
theorem ki_X7_lose : Cond.instanceMethod yX7_lose ∈ gw := tb_in (List.mem_of_getElem? (i := 630) (by decide +kernel)) rfl
theorem ks_X7_lose : Cond.selects RX7 yX7_lose yX7_lose ∈ gw := tb_in (List.mem_of_getElem? (i := 631) (by decide +kernel)) rfl
abbrev mX7_put : my := (yX7_put, cX7_put, 6, (some .int))
theorem kx_X7_put : Cond.code mX7_put.1 mX7_put.2.1 mX7_put.2.2.1 mX7_put.2.2.2 ∈ gw := tb_in (List.mem_of_getElem? (i := 644) (by decide +kernel)) rfl
theorem cw_X7_put {y : my} {index d2 : Nat} : Cw y mX7_put index 4 d2 := ⟨kx_X7_put, tb_in (List.mem_of_getElem? (i := 1) (by decide +kernel)) rfl, by decide +kernel, by decide⟩
theorem ki_X7_put : Cond.instanceMethod yX7_put ∈ gw := tb_in (List.mem_of_getElem? (i := 642) (by decide +kernel)) rfl
theorem ks_X7_put : Cond.selects RX7 yX7_put yX7_put ∈ gw := tb_in (List.mem_of_getElem? (i := 643) (by decide +kernel)) rfl
abbrev mX7_get : my := (yX7_get, cX7_get, 5, (some .int))
theorem kx_X7_get : Cond.code mX7_get.1 mX7_get.2.1 mX7_get.2.2.1 mX7_get.2.2.2 ∈ gw := tb_in (List.mem_of_getElem? (i := 659) (by decide +kernel)) rfl
theorem cw_X7_get {y : my} {index d2 : Nat} : Cw y mX7_get index 3 d2 := ⟨kx_X7_get, tb_in (List.mem_of_getElem? (i := 1) (by decide +kernel)) rfl, by decide +kernel, by decide⟩
theorem ki_X7_get : Cond.instanceMethod yX7_get ∈ gw := tb_in (List.mem_of_getElem? (i := 657) (by decide +kernel)) rfl
theorem ks_X7_get : Cond.selects RX7 yX7_get yX7_get ∈ gw := tb_in (List.mem_of_getElem? (i := 658) (by decide +kernel)) rfl
abbrev mX7_copy : my := (yX7_copy, cX7_copy, 8, (some .int))
theorem kx_X7_copy : Cond.code mX7_copy.1 mX7_copy.2.1 mX7_copy.2.2.1 mX7_copy.2.2.2 ∈ gw := tb_in (List.mem_of_getElem? (i := 664) (by decide +kernel)) rfl
theorem cw_X7_copy {y : my} {index d2 : Nat} : Cw y mX7_copy index 5 d2 := ⟨kx_X7_copy, tb_in (List.mem_of_getElem? (i := 1) (by decide +kernel)) rfl, by decide +kernel, by decide⟩
theorem ki_X7_copy : Cond.instanceMethod yX7_copy ∈ gw := tb_in (List.mem_of_getElem? (i := 662) (by decide +kernel)) rfl
theorem ks_X7_copy : Cond.selects RX7 yX7_copy yX7_copy ∈ gw := tb_in (List.mem_of_getElem? (i := 663) (by decide +kernel)) rfl
abbrev mX7_print : my := (yX7_print, cX7_print, 5, (some .int))
theorem kx_X7_print : Cond.code mX7_print.1 mX7_print.2.1 mX7_print.2.2.1 mX7_print.2.2.2 ∈ gw := tb_in (List.mem_of_getElem? (i := 671) (by decide +kernel)) rfl
theorem cw_X7_print {y : my} {index d2 : Nat} : Cw y mX7_print index 4 d2 := ⟨kx_X7_print, tb_in (List.mem_of_getElem? (i := 1) (by decide +kernel)) rfl, by decide +kernel, by decide⟩
theorem ki_X7_print : Cond.instanceMethod yX7_print ∈ gw := tb_in (List.mem_of_getElem? (i := 669) (by decide +kernel)) rfl
theorem ks_X7_print : Cond.selects RX7 yX7_print yX7_print ∈ gw := tb_in (List.mem_of_getElem? (i := 670) (by decide +kernel)) rfl
abbrev mX7_find : my := (yX7_find, cX7_find, 6, (some .int))
theorem kx_X7_find : Cond.code mX7_find.1 mX7_find.2.1 mX7_find.2.2.1 mX7_find.2.2.2 ∈ gw := tb_in (List.mem_of_getElem? (i := 679) (by decide +kernel)) rfl
theorem cw_X7_find {y : my} {index d2 : Nat} : Cw y mX7_find index 4 d2 := ⟨kx_X7_find, tb_in (List.mem_of_getElem? (i := 1) (by decide +kernel)) rfl, by decide +kernel, by decide⟩
theorem ki_X7_find : Cond.instanceMethod yX7_find ∈ gw := tb_in (List.mem_of_getElem? (i := 677) (by decide +kernel)) rfl
theorem ks_X7_find : Cond.selects RX7 yX7_find yX7_find ∈ gw := tb_in (List.mem_of_getElem? (i := 678) (by decide +kernel)) rfl
abbrev mX7_found : my := (yX7_found, cX7_found, 1, (some .int))
theorem kx_X7_found : Cond.code mX7_found.1 mX7_found.2.1 mX7_found.2.2.1 mX7_found.2.2.2 ∈ gw := tb_in (List.mem_of_getElem? (i := 705) (by decide +kernel)) rfl
theorem cw_X7_found {y : my} {index d2 : Nat} : Cw y mX7_found index 0 d2 := ⟨kx_X7_found, tb_in (List.mem_of_getElem? (i := 1) (by decide +kernel)) rfl, by decide +kernel, by decide⟩
theorem ki_X7_found : Cond.instanceMethod yX7_found ∈ gw := tb_in (List.mem_of_getElem? (i := 703) (by decide +kernel)) rfl
theorem ks_X7_found : Cond.selects RX7 yX7_found yX7_found ∈ gw := tb_in (List.mem_of_getElem? (i := 704) (by decide +kernel)) rfl
abbrev mX7_twice : my := (yX7_twice, cX7_twice, 3, (some .int))
theorem kx_X7_twice : Cond.code mX7_twice.1 mX7_twice.2.1 mX7_twice.2.2.1 mX7_twice.2.2.2 ∈ gw := tb_in (List.mem_of_getElem? (i := 709) (by decide +kernel)) rfl
theorem cw_X7_twice {y : my} {index d2 : Nat} : Cw y mX7_twice index 1 d2 := ⟨kx_X7_twice, tb_in (List.mem_of_getElem? (i := 1) (by decide +kernel)) rfl, by decide +kernel, by decide⟩
theorem ki_X7_twice : Cond.instanceMethod yX7_twice ∈ gw := tb_in (List.mem_of_getElem? (i := 707) (by decide +kernel)) rfl
theorem ks_X7_twice : Cond.selects RX7 yX7_twice yX7_twice ∈ gw := tb_in (List.mem_of_getElem? (i := 708) (by decide +kernel)) rfl
abbrev mX7_parts : my := (yX7_parts, cX7_parts, 3, (some .int))
theorem kx_X7_parts : Cond.code mX7_parts.1 mX7_parts.2.1 mX7_parts.2.2.1 mX7_parts.2.2.2 ∈ gw := tb_in (List.mem_of_getElem? (i := 726) (by decide +kernel)) rfl
theorem cw_X7_parts {y : my} {index d2 : Nat} : Cw y mX7_parts index 1 d2 := ⟨kx_X7_parts, tb_in (List.mem_of_getElem? (i := 1) (by decide +kernel)) rfl, by decide +kernel, by decide⟩
theorem ki_X7_parts : Cond.instanceMethod yX7_parts ∈ gw := tb_in (List.mem_of_getElem? (i := 724) (by decide +kernel)) rfl
theorem ks_X7_parts : Cond.selects RX7 yX7_parts yX7_parts ∈ gw := tb_in (List.mem_of_getElem? (i := 725) (by decide +kernel)) rfl
abbrev mX7_part : my := (yX7_part, cX7_part, 2, (some .int))
theorem kx_X7_part : Cond.code mX7_part.1 mX7_part.2.1 mX7_part.2.2.1 mX7_part.2.2.2 ∈ gw := tb_in (List.mem_of_getElem? (i := 734) (by decide +kernel)) rfl
theorem cw_X7_part {y : my} {index d2 : Nat} : Cw y mX7_part index 1 d2 := ⟨kx_X7_part, tb_in (List.mem_of_getElem? (i := 1) (by decide +kernel)) rfl, by decide +kernel, by decide⟩
theorem ki_X7_part : Cond.instanceMethod yX7_part ∈ gw := tb_in (List.mem_of_getElem? (i := 732) (by decide +kernel)) rfl
theorem ks_X7_part : Cond.selects RX7 yX7_part yX7_part ∈ gw := tb_in (List.mem_of_getElem? (i := 733) (by decide +kernel)) rfl
abbrev mX7_recurrence : my := (yX7_recurrence, cX7_recurrence, 3, (some .int))
theorem kx_X7_recurrence : Cond.code mX7_recurrence.1 mX7_recurrence.2.1 mX7_recurrence.2.2.1 mX7_recurrence.2.2.2 ∈ gw := tb_in (List.mem_of_getElem? (i := 738) (by decide +kernel)) rfl
theorem cw_X7_recurrence {y : my} {index d2 : Nat} : Cw y mX7_recurrence index 1 d2 := ⟨kx_X7_recurrence, tb_in (List.mem_of_getElem? (i := 1) (by decide +kernel)) rfl, by decide +kernel, by decide⟩
theorem ki_X7_recurrence : Cond.instanceMethod yX7_recurrence ∈ gw := tb_in (List.mem_of_getElem? (i := 736) (by decide +kernel)) rfl
theorem ks_X7_recurrence : Cond.selects RX7 yX7_recurrence yX7_recurrence ∈ gw := tb_in (List.mem_of_getElem? (i := 737) (by decide +kernel)) rfl
abbrev mX7_coefficient : my := (yX7_coefficient, cX7_coefficient, 2, (some .int))
theorem kx_X7_coefficient : Cond.code mX7_coefficient.1 mX7_coefficient.2.1 mX7_coefficient.2.2.1 mX7_coefficient.2.2.2 ∈ gw := tb_in (List.mem_of_getElem? (i := 768) (by decide +kernel)) rfl
theorem cw_X7_coefficient {y : my} {index d2 : Nat} : Cw y mX7_coefficient index 1 d2 := ⟨kx_X7_coefficient, tb_in (List.mem_of_getElem? (i := 1) (by decide +kernel)) rfl, by decide +kernel, by decide⟩
theorem ki_X7_coefficient : Cond.instanceMethod yX7_coefficient ∈ gw := tb_in (List.mem_of_getElem? (i := 766) (by decide +kernel)) rfl
theorem ks_X7_coefficient : Cond.selects RX7 yX7_coefficient yX7_coefficient ∈ gw := tb_in (List.mem_of_getElem? (i := 767) (by decide +kernel)) rfl
abbrev mX7_count : my := (yX7_count, cX7_count, 2, (some .int))
theorem kx_X7_count : Cond.code mX7_count.1 mX7_count.2.1 mX7_count.2.2.1 mX7_count.2.2.2 ∈ gw := tb_in (List.mem_of_getElem? (i := 776) (by decide +kernel)) rfl
theorem cw_X7_count {y : my} {index d2 : Nat} : Cw y mX7_count index 1 d2 := ⟨kx_X7_count, tb_in (List.mem_of_getElem? (i := 1) (by decide +kernel)) rfl, by decide +kernel, by decide⟩
theorem ki_X7_count : Cond.instanceMethod yX7_count ∈ gw := tb_in (List.mem_of_getElem? (i := 774) (by decide +kernel)) rfl
theorem ks_X7_count : Cond.selects RX7 yX7_count yX7_count ∈ gw := tb_in (List.mem_of_getElem? (i := 775) (by decide +kernel)) rfl
abbrev mX7_digest : my := (yX7_digest, cX7_digest, 5, (some .long))
theorem kx_X7_digest : Cond.code mX7_digest.1 mX7_digest.2.1 mX7_digest.2.2.1 mX7_digest.2.2.2 ∈ gw := tb_in (List.mem_of_getElem? (i := 780) (by decide +kernel)) rfl
theorem cw_X7_digest {y : my} {index d2 : Nat} : Cw y mX7_digest index 0 d2 := ⟨kx_X7_digest, tb_in (List.mem_of_getElem? (i := 1) (by decide +kernel)) rfl, by decide +kernel, by decide⟩
theorem ki_X7_digest : Cond.instanceMethod yX7_digest ∈ gw := tb_in (List.mem_of_getElem? (i := 778) (by decide +kernel)) rfl
theorem ks_X7_digest : Cond.selects RX7 yX7_digest yX7_digest ∈ gw := tb_in (List.mem_of_getElem? (i := 779) (by decide +kernel)) rfl
abbrev mX7_isTape : my := (yX7_isTape, cX7_isTape, 1, (some .boolean))
theorem kx_X7_isTape : Cond.code mX7_isTape.1 mX7_isTape.2.1 mX7_isTape.2.2.1 mX7_isTape.2.2.2 ∈ gw := tb_in (List.mem_of_getElem? (i := 616) (by decide +kernel)) rfl
theorem cw_X7_isTape {y : my} {index d2 : Nat} : Cw y mX7_isTape index 1 d2 := ⟨kx_X7_isTape, tb_in (List.mem_of_getElem? (i := 1) (by decide +kernel)) rfl, by decide +kernel, by decide⟩
theorem kt_X7_isTape : Cond.static yX7_isTape ∈ gw := tb_in (List.mem_of_getElem? (i := 615) (by decide +kernel)) rfl
abbrev mX7_isForm : my := (yX7_isForm, cX7_isForm, 1, (some .boolean))
theorem kx_X7_isForm : Cond.code mX7_isForm.1 mX7_isForm.2.1 mX7_isForm.2.2.1 mX7_isForm.2.2.2 ∈ gw := tb_in (List.mem_of_getElem? (i := 619) (by decide +kernel)) rfl
theorem cw_X7_isForm {y : my} {index d2 : Nat} : Cw y mX7_isForm index 1 d2 := ⟨kx_X7_isForm, tb_in (List.mem_of_getElem? (i := 1) (by decide +kernel)) rfl, by decide +kernel, by decide⟩
theorem kt_X7_isForm : Cond.static yX7_isForm ∈ gw := tb_in (List.mem_of_getElem? (i := 618) (by decide +kernel)) rfl
abbrev mX7_finding : my := (yX7_finding, cX7_finding, 2, (some .int))
theorem kx_X7_finding : Cond.code mX7_finding.1 mX7_finding.2.1 mX7_finding.2.2.1 mX7_finding.2.2.2 ∈ gw := tb_in (List.mem_of_getElem? (i := 623) (by decide +kernel)) rfl
theorem cw_X7_finding {y : my} {index d2 : Nat} : Cw y mX7_finding index 1 d2 := ⟨kx_X7_finding, tb_in (List.mem_of_getElem? (i := 1) (by decide +kernel)) rfl, by decide +kernel, by decide⟩
theorem ki_X7_finding : Cond.instanceMethod yX7_finding ∈ gw := tb_in (List.mem_of_getElem? (i := 622) (by decide +kernel)) rfl
theorem ks_X7_finding : Cond.selects RX7 yX7_finding yX7_finding ∈ gw := tb_sel (List.mem_of_getElem? (i := 54) (by decide +kernel)) rfl
abbrev mX7_faultOfItem : my := (yX7_faultOfItem, cX7_faultOfItem, 3, (some .int))
theorem kx_X7_faultOfItem : Cond.code mX7_faultOfItem.1 mX7_faultOfItem.2.1 mX7_faultOfItem.2.2.1 mX7_faultOfItem.2.2.2 ∈ gw := tb_in (List.mem_of_getElem? (i := 647) (by decide +kernel)) rfl
theorem cw_X7_faultOfItem {y : my} {index d2 : Nat} : Cw y mX7_faultOfItem index 3 d2 := ⟨kx_X7_faultOfItem, tb_in (List.mem_of_getElem? (i := 1) (by decide +kernel)) rfl, by decide +kernel, by decide⟩
theorem kt_X7_faultOfItem : Cond.static yX7_faultOfItem ∈ gw := tb_in (List.mem_of_getElem? (i := 646) (by decide +kernel)) rfl
abbrev mX8_init : my := (yX8_init, cX8_init, 2, none)
theorem kx_X8_init : Cond.code mX8_init.1 mX8_init.2.1 mX8_init.2.2.1 mX8_init.2.2.2 ∈ gw := tb_in (List.mem_of_getElem? (i := 788) (by decide +kernel)) rfl
theorem cw_X8_init {y : my} {index d2 : Nat} : Cw y mX8_init index 0 d2 := ⟨kx_X8_init, tb_in (List.mem_of_getElem? (i := 10) (by decide +kernel)) rfl, by decide +kernel, by decide⟩
theorem ki_X8_init : Cond.instanceMethod yX8_init ∈ gw := tb_in (List.mem_of_getElem? (i := 787) (by decide +kernel)) rfl
abbrev mX8_in : my := (yX8_in, cX8_in, 6, (some .boolean))
theorem kx_X8_in : Cond.code mX8_in.1 mX8_in.2.1 mX8_in.2.2.1 mX8_in.2.2.2 ∈ gw := tb_in (List.mem_of_getElem? (i := 799) (by decide +kernel)) rfl
theorem cw_X8_in {y : my} {index d2 : Nat} : Cw y mX8_in index 3 d2 := ⟨kx_X8_in, tb_in (List.mem_of_getElem? (i := 10) (by decide +kernel)) rfl, by decide +kernel, by decide⟩
theorem kt_X8_in : Cond.static yX8_in ∈ gw := tb_in (List.mem_of_getElem? (i := 798) (by decide +kernel)) rfl
abbrev mX8_wheel : my := (yX8_wheel, cX8_wheel, 5, (some .int))
theorem kx_X8_wheel : Cond.code mX8_wheel.1 mX8_wheel.2.1 mX8_wheel.2.2.1 mX8_wheel.2.2.2 ∈ gw := tb_in (List.mem_of_getElem? (i := 794) (by decide +kernel)) rfl
theorem cw_X8_wheel {y : my} {index d2 : Nat} : Cw y mX8_wheel index 2 d2 := ⟨kx_X8_wheel, tb_in (List.mem_of_getElem? (i := 10) (by decide +kernel)) rfl, by decide +kernel, by decide⟩
theorem ki_X8_wheel : Cond.instanceMethod yX8_wheel ∈ gw := tb_in (List.mem_of_getElem? (i := 792) (by decide +kernel)) rfl
theorem ks_X8_wheel : Cond.selects RX8 yX8_wheel yX8_wheel ∈ gw := tb_in (List.mem_of_getElem? (i := 793) (by decide +kernel)) rfl
abbrev mX8_isWord : my := (yX8_isWord, cX8_isWord, 2, (some .boolean))
theorem kx_X8_isWord : Cond.code mX8_isWord.1 mX8_isWord.2.1 mX8_isWord.2.2.1 mX8_isWord.2.2.2 ∈ gw := tb_in (List.mem_of_getElem? (i := 922) (by decide +kernel)) rfl
theorem cw_X8_isWord {y : my} {index d2 : Nat} : Cw y mX8_isWord index 1 d2 := ⟨kx_X8_isWord, tb_in (List.mem_of_getElem? (i := 10) (by decide +kernel)) rfl, by decide +kernel, by decide⟩
theorem ki_X8_isWord : Cond.instanceMethod yX8_isWord ∈ gw := tb_in (List.mem_of_getElem? (i := 921) (by decide +kernel)) rfl
theorem ks_X8_isWord : Cond.selects RX8 yX8_isWord yX8_isWord ∈ gw := tb_sel (List.mem_of_getElem? (i := 78) (by decide +kernel)) rfl
abbrev mX8_next : my := (yX8_next, cX8_next, 3, (some .int))
theorem kx_X8_next : Cond.code mX8_next.1 mX8_next.2.1 mX8_next.2.2.1 mX8_next.2.2.2 ∈ gw := tb_in (List.mem_of_getElem? (i := 808) (by decide +kernel)) rfl
theorem cw_X8_next {y : my} {index d2 : Nat} : Cw y mX8_next index 1 d2 := ⟨kx_X8_next, tb_in (List.mem_of_getElem? (i := 10) (by decide +kernel)) rfl, by decide +kernel, by decide⟩
theorem ki_X8_next : Cond.instanceMethod yX8_next ∈ gw := tb_in (List.mem_of_getElem? (i := 807) (by decide +kernel)) rfl
theorem ks_X8_next : Cond.selects RX8 yX8_next yX8_next ∈ gw := tb_sel (List.mem_of_getElem? (i := 76) (by decide +kernel)) rfl
abbrev mX8_leastOf : my := (yX8_leastOf, cX8_leastOf, 4, (some .int))
theorem kx_X8_leastOf : Cond.code mX8_leastOf.1 mX8_leastOf.2.1 mX8_leastOf.2.2.1 mX8_leastOf.2.2.2 ∈ gw := tb_in (List.mem_of_getElem? (i := 804) (by decide +kernel)) rfl
theorem cw_X8_leastOf {y : my} {index d2 : Nat} : Cw y mX8_leastOf index 1 d2 := ⟨kx_X8_leastOf, tb_in (List.mem_of_getElem? (i := 10) (by decide +kernel)) rfl, by decide +kernel, by decide⟩
theorem ki_X8_leastOf : Cond.instanceMethod yX8_leastOf ∈ gw := tb_in (List.mem_of_getElem? (i := 803) (by decide +kernel)) rfl
theorem ks_X8_leastOf : Cond.selects RX8 yX8_leastOf yX8_leastOf ∈ gw := tb_sel (List.mem_of_getElem? (i := 75) (by decide +kernel)) rfl
abbrev mX8_turn : my := (yX8_turn, cX8_turn, 5, (some .int))
theorem kx_X8_turn : Cond.code mX8_turn.1 mX8_turn.2.1 mX8_turn.2.2.1 mX8_turn.2.2.2 ∈ gw := tb_in (List.mem_of_getElem? (i := 918) (by decide +kernel)) rfl
theorem cw_X8_turn {y : my} {index d2 : Nat} : Cw y mX8_turn index 2 d2 := ⟨kx_X8_turn, tb_in (List.mem_of_getElem? (i := 10) (by decide +kernel)) rfl, by decide +kernel, by decide⟩
theorem ki_X8_turn : Cond.instanceMethod yX8_turn ∈ gw := tb_in (List.mem_of_getElem? (i := 916) (by decide +kernel)) rfl
theorem ks_X8_turn : Cond.selects RX8 yX8_turn yX8_turn ∈ gw := tb_in (List.mem_of_getElem? (i := 917) (by decide +kernel)) rfl
abbrev mX8_least : my := (yX8_least, cX8_least, 2, (some .int))
theorem kx_X8_least : Cond.code mX8_least.1 mX8_least.2.1 mX8_least.2.2.1 mX8_least.2.2.2 ∈ gw := tb_in (List.mem_of_getElem? (i := 927) (by decide +kernel)) rfl
theorem cw_X8_least {y : my} {index d2 : Nat} : Cw y mX8_least index 1 d2 := ⟨kx_X8_least, tb_in (List.mem_of_getElem? (i := 10) (by decide +kernel)) rfl, by decide +kernel, by decide⟩
theorem ki_X8_least : Cond.instanceMethod yX8_least ∈ gw := tb_in (List.mem_of_getElem? (i := 925) (by decide +kernel)) rfl
theorem ks_X8_least : Cond.selects RX8 yX8_least yX8_least ∈ gw := tb_in (List.mem_of_getElem? (i := 926) (by decide +kernel)) rfl
abbrev mX8_steps : my := (yX8_steps, cX8_steps, 4, (some .int))
theorem kx_X8_steps : Cond.code mX8_steps.1 mX8_steps.2.1 mX8_steps.2.2.1 mX8_steps.2.2.2 ∈ gw := tb_in (List.mem_of_getElem? (i := 931) (by decide +kernel)) rfl
theorem cw_X8_steps {y : my} {index d2 : Nat} : Cw y mX8_steps index 1 d2 := ⟨kx_X8_steps, tb_in (List.mem_of_getElem? (i := 10) (by decide +kernel)) rfl, by decide +kernel, by decide⟩
theorem ki_X8_steps : Cond.instanceMethod yX8_steps ∈ gw := tb_in (List.mem_of_getElem? (i := 929) (by decide +kernel)) rfl
theorem ks_X8_steps : Cond.selects RX8 yX8_steps yX8_steps ∈ gw := tb_in (List.mem_of_getElem? (i := 930) (by decide +kernel)) rfl
abbrev mX8_sizeOf : my := (yX8_sizeOf, cX8_sizeOf, 4, (some .int))
theorem kx_X8_sizeOf : Cond.code mX8_sizeOf.1 mX8_sizeOf.2.1 mX8_sizeOf.2.2.1 mX8_sizeOf.2.2.2 ∈ gw := tb_in (List.mem_of_getElem? (i := 939) (by decide +kernel)) rfl
theorem cw_X8_sizeOf {y : my} {index d2 : Nat} : Cw y mX8_sizeOf index 1 d2 := ⟨kx_X8_sizeOf, tb_in (List.mem_of_getElem? (i := 10) (by decide +kernel)) rfl, by decide +kernel, by decide⟩
theorem ki_X8_sizeOf : Cond.instanceMethod yX8_sizeOf ∈ gw := tb_in (List.mem_of_getElem? (i := 938) (by decide +kernel)) rfl
theorem ks_X8_sizeOf : Cond.selects RX8 yX8_sizeOf yX8_sizeOf ∈ gw := tb_sel (List.mem_of_getElem? (i := 79) (by decide +kernel)) rfl
abbrev mX8_size : my := (yX8_size, cX8_size, 2, (some .int))
theorem kx_X8_size : Cond.code mX8_size.1 mX8_size.2.1 mX8_size.2.2.1 mX8_size.2.2.2 ∈ gw := tb_in (List.mem_of_getElem? (i := 935) (by decide +kernel)) rfl
theorem cw_X8_size {y : my} {index d2 : Nat} : Cw y mX8_size index 1 d2 := ⟨kx_X8_size, tb_in (List.mem_of_getElem? (i := 10) (by decide +kernel)) rfl, by decide +kernel, by decide⟩
theorem ki_X8_size : Cond.instanceMethod yX8_size ∈ gw := tb_in (List.mem_of_getElem? (i := 933) (by decide +kernel)) rfl
theorem ks_X8_size : Cond.selects RX8 yX8_size yX8_size ∈ gw := tb_in (List.mem_of_getElem? (i := 934) (by decide +kernel)) rfl
abbrev mX8_even : my := (yX8_even, cX8_even, 5, (some .int))
theorem kx_X8_even : Cond.code mX8_even.1 mX8_even.2.1 mX8_even.2.2.1 mX8_even.2.2.2 ∈ gw := tb_in (List.mem_of_getElem? (i := 943) (by decide +kernel)) rfl
theorem cw_X8_even {y : my} {index d2 : Nat} : Cw y mX8_even index 1 d2 := ⟨kx_X8_even, tb_in (List.mem_of_getElem? (i := 10) (by decide +kernel)) rfl, by decide +kernel, by decide⟩
theorem ki_X8_even : Cond.instanceMethod yX8_even ∈ gw := tb_in (List.mem_of_getElem? (i := 941) (by decide +kernel)) rfl
theorem ks_X8_even : Cond.selects RX8 yX8_even yX8_even ∈ gw := tb_in (List.mem_of_getElem? (i := 942) (by decide +kernel)) rfl
abbrev mX8_rings : my := (yX8_rings, cX8_rings, 3, (some .int))
theorem kx_X8_rings : Cond.code mX8_rings.1 mX8_rings.2.1 mX8_rings.2.2.1 mX8_rings.2.2.2 ∈ gw := tb_in (List.mem_of_getElem? (i := 947) (by decide +kernel)) rfl
theorem cw_X8_rings {y : my} {index d2 : Nat} : Cw y mX8_rings index 0 d2 := ⟨kx_X8_rings, tb_in (List.mem_of_getElem? (i := 10) (by decide +kernel)) rfl, by decide +kernel, by decide⟩
theorem ki_X8_rings : Cond.instanceMethod yX8_rings ∈ gw := tb_in (List.mem_of_getElem? (i := 945) (by decide +kernel)) rfl
theorem ks_X8_rings : Cond.selects RX8 yX8_rings yX8_rings ∈ gw := tb_in (List.mem_of_getElem? (i := 946) (by decide +kernel)) rfl
abbrev mX8_ringOf : my := (yX8_ringOf, cX8_ringOf, 4, (some .int))
theorem kx_X8_ringOf : Cond.code mX8_ringOf.1 mX8_ringOf.2.1 mX8_ringOf.2.2.1 mX8_ringOf.2.2.2 ∈ gw := tb_in (List.mem_of_getElem? (i := 951) (by decide +kernel)) rfl
theorem cw_X8_ringOf {y : my} {index d2 : Nat} : Cw y mX8_ringOf index 1 d2 := ⟨kx_X8_ringOf, tb_in (List.mem_of_getElem? (i := 10) (by decide +kernel)) rfl, by decide +kernel, by decide⟩
theorem ki_X8_ringOf : Cond.instanceMethod yX8_ringOf ∈ gw := tb_in (List.mem_of_getElem? (i := 949) (by decide +kernel)) rfl
theorem ks_X8_ringOf : Cond.selects RX8 yX8_ringOf yX8_ringOf ∈ gw := tb_in (List.mem_of_getElem? (i := 950) (by decide +kernel)) rfl
abbrev mX8_ring : my := (yX8_ring, cX8_ring, 4, (some .int))
theorem kx_X8_ring : Cond.code mX8_ring.1 mX8_ring.2.1 mX8_ring.2.2.1 mX8_ring.2.2.2 ∈ gw := tb_in (List.mem_of_getElem? (i := 955) (by decide +kernel)) rfl
theorem cw_X8_ring {y : my} {index d2 : Nat} : Cw y mX8_ring index 1 d2 := ⟨kx_X8_ring, tb_in (List.mem_of_getElem? (i := 10) (by decide +kernel)) rfl, by decide +kernel, by decide⟩
theorem ki_X8_ring : Cond.instanceMethod yX8_ring ∈ gw := tb_in (List.mem_of_getElem? (i := 953) (by decide +kernel)) rfl
theorem ks_X8_ring : Cond.selects RX8 yX8_ring yX8_ring ∈ gw := tb_in (List.mem_of_getElem? (i := 954) (by decide +kernel)) rfl
abbrev mX8_below : my := (yX8_below, cX8_below, 4, (some .int))
theorem kx_X8_below : Cond.code mX8_below.1 mX8_below.2.1 mX8_below.2.2.1 mX8_below.2.2.2 ∈ gw := tb_in (List.mem_of_getElem? (i := 959) (by decide +kernel)) rfl
theorem cw_X8_below {y : my} {index d2 : Nat} : Cw y mX8_below index 1 d2 := ⟨kx_X8_below, tb_in (List.mem_of_getElem? (i := 10) (by decide +kernel)) rfl, by decide +kernel, by decide⟩
theorem ki_X8_below : Cond.instanceMethod yX8_below ∈ gw := tb_in (List.mem_of_getElem? (i := 957) (by decide +kernel)) rfl
theorem ks_X8_below : Cond.selects RX8 yX8_below yX8_below ∈ gw := tb_in (List.mem_of_getElem? (i := 958) (by decide +kernel)) rfl
abbrev mX8_content : my := (yX8_content, cX8_content, 11, (some .int))
theorem kx_X8_content : Cond.code mX8_content.1 mX8_content.2.1 mX8_content.2.2.1 mX8_content.2.2.2 ∈ gw := tb_in (List.mem_of_getElem? (i := 963) (by decide +kernel)) rfl
theorem cw_X8_content {y : my} {index d2 : Nat} : Cw y mX8_content index 5 d2 := ⟨kx_X8_content, tb_in (List.mem_of_getElem? (i := 10) (by decide +kernel)) rfl, by decide +kernel, by decide⟩
theorem ki_X8_content : Cond.instanceMethod yX8_content ∈ gw := tb_in (List.mem_of_getElem? (i := 961) (by decide +kernel)) rfl
theorem ks_X8_content : Cond.selects RX8 yX8_content yX8_content ∈ gw := tb_in (List.mem_of_getElem? (i := 962) (by decide +kernel)) rfl
abbrev mX8_hasWanted : my := (yX8_hasWanted, cX8_hasWanted, 5, (some .boolean))
theorem kx_X8_hasWanted : Cond.code mX8_hasWanted.1 mX8_hasWanted.2.1 mX8_hasWanted.2.2.1 mX8_hasWanted.2.2.2 ∈ gw := tb_in (List.mem_of_getElem? (i := 967) (by decide +kernel)) rfl
theorem cw_X8_hasWanted {y : my} {index d2 : Nat} : Cw y mX8_hasWanted index 1 d2 := ⟨kx_X8_hasWanted, tb_in (List.mem_of_getElem? (i := 10) (by decide +kernel)) rfl, by decide +kernel, by decide⟩
theorem ki_X8_hasWanted : Cond.instanceMethod yX8_hasWanted ∈ gw := tb_in (List.mem_of_getElem? (i := 966) (by decide +kernel)) rfl
theorem ks_X8_hasWanted : Cond.selects RX8 yX8_hasWanted yX8_hasWanted ∈ gw := tb_sel (List.mem_of_getElem? (i := 80) (by decide +kernel)) rfl
abbrev mX8_lead : my := (yX8_lead, cX8_lead, 6, none)
theorem kx_X8_lead : Cond.code mX8_lead.1 mX8_lead.2.1 mX8_lead.2.2.1 mX8_lead.2.2.2 ∈ gw := tb_in (List.mem_of_getElem? (i := 812) (by decide +kernel)) rfl
theorem cw_X8_lead {y : my} {index d2 : Nat} : Cw y mX8_lead index 0 d2 := ⟨kx_X8_lead, tb_in (List.mem_of_getElem? (i := 10) (by decide +kernel)) rfl, by decide +kernel, by decide⟩
theorem ki_X8_lead : Cond.instanceMethod yX8_lead ∈ gw := tb_in (List.mem_of_getElem? (i := 811) (by decide +kernel)) rfl
theorem ks_X8_lead : Cond.selects RX8 yX8_lead yX8_lead ∈ gw := tb_sel (List.mem_of_getElem? (i := 77) (by decide +kernel)) rfl
abbrev mX8_factor : my := (yX8_factor, cX8_factor, 4, (some .int))
theorem kx_X8_factor : Cond.code mX8_factor.1 mX8_factor.2.1 mX8_factor.2.2.1 mX8_factor.2.2.2 ∈ gw := tb_in (List.mem_of_getElem? (i := 971) (by decide +kernel)) rfl
theorem cw_X8_factor {y : my} {index d2 : Nat} : Cw y mX8_factor index 2 d2 := ⟨kx_X8_factor, tb_in (List.mem_of_getElem? (i := 10) (by decide +kernel)) rfl, by decide +kernel, by decide⟩
theorem ki_X8_factor : Cond.instanceMethod yX8_factor ∈ gw := tb_in (List.mem_of_getElem? (i := 969) (by decide +kernel)) rfl
theorem ks_X8_factor : Cond.selects RX8 yX8_factor yX8_factor ∈ gw := tb_in (List.mem_of_getElem? (i := 970) (by decide +kernel)) rfl
abbrev mX8_sum : my := (yX8_sum, cX8_sum, 3, (some .int))
theorem kx_X8_sum : Cond.code mX8_sum.1 mX8_sum.2.1 mX8_sum.2.2.1 mX8_sum.2.2.2 ∈ gw := tb_in (List.mem_of_getElem? (i := 975) (by decide +kernel)) rfl
theorem cw_X8_sum {y : my} {index d2 : Nat} : Cw y mX8_sum index 1 d2 := ⟨kx_X8_sum, tb_in (List.mem_of_getElem? (i := 10) (by decide +kernel)) rfl, by decide +kernel, by decide⟩
theorem ki_X8_sum : Cond.instanceMethod yX8_sum ∈ gw := tb_in (List.mem_of_getElem? (i := 973) (by decide +kernel)) rfl
theorem ks_X8_sum : Cond.selects RX8 yX8_sum yX8_sum ∈ gw := tb_in (List.mem_of_getElem? (i := 974) (by decide +kernel)) rfl
abbrev mX8_go : my := (yX8_go, cX8_go, 2, (some .int))
theorem kx_X8_go : Cond.code mX8_go.1 mX8_go.2.1 mX8_go.2.2.1 mX8_go.2.2.2 ∈ gw := tb_in (List.mem_of_getElem? (i := 979) (by decide +kernel)) rfl
theorem cw_X8_go {y : my} {index d2 : Nat} : Cw y mX8_go index 1 d2 := ⟨kx_X8_go, tb_in (List.mem_of_getElem? (i := 10) (by decide +kernel)) rfl, by decide +kernel, by decide⟩
theorem ki_X8_go : Cond.instanceMethod yX8_go ∈ gw := tb_in (List.mem_of_getElem? (i := 977) (by decide +kernel)) rfl
theorem ks_X8_go : Cond.selects RX8 yX8_go yX8_go ∈ gw := tb_in (List.mem_of_getElem? (i := 978) (by decide +kernel)) rfl
abbrev mX8_isRight : my := (yX8_isRight, cX8_isRight, 3, (some .boolean))
theorem kx_X8_isRight : Cond.code mX8_isRight.1 mX8_isRight.2.1 mX8_isRight.2.2.1 mX8_isRight.2.2.2 ∈ gw := tb_in (List.mem_of_getElem? (i := 987) (by decide +kernel)) rfl
theorem cw_X8_isRight {y : my} {index d2 : Nat} : Cw y mX8_isRight index 0 d2 := ⟨kx_X8_isRight, tb_in (List.mem_of_getElem? (i := 10) (by decide +kernel)) rfl, by decide +kernel, by decide⟩
theorem ki_X8_isRight : Cond.instanceMethod yX8_isRight ∈ gw := tb_in (List.mem_of_getElem? (i := 986) (by decide +kernel)) rfl
theorem ks_X8_isRight : Cond.selects RX8 yX8_isRight yX8_isRight ∈ gw := tb_sel (List.mem_of_getElem? (i := 81) (by decide +kernel)) rfl
abbrev mX8_right : my := (yX8_right, cX8_right, 1, (some .int))
theorem kx_X8_right : Cond.code mX8_right.1 mX8_right.2.1 mX8_right.2.2.1 mX8_right.2.2.2 ∈ gw := tb_in (List.mem_of_getElem? (i := 983) (by decide +kernel)) rfl
theorem cw_X8_right {y : my} {index d2 : Nat} : Cw y mX8_right index 0 d2 := ⟨kx_X8_right, tb_in (List.mem_of_getElem? (i := 10) (by decide +kernel)) rfl, by decide +kernel, by decide⟩
theorem ki_X8_right : Cond.instanceMethod yX8_right ∈ gw := tb_in (List.mem_of_getElem? (i := 981) (by decide +kernel)) rfl
theorem ks_X8_right : Cond.selects RX8 yX8_right yX8_right ∈ gw := tb_in (List.mem_of_getElem? (i := 982) (by decide +kernel)) rfl
abbrev mX8_findCycles : my := (yX8_findCycles, cX8_findCycles, 3, none)
theorem kx_X8_findCycles : Cond.code mX8_findCycles.1 mX8_findCycles.2.1 mX8_findCycles.2.2.1 mX8_findCycles.2.2.2 ∈ gw := tb_in (List.mem_of_getElem? (i := 999) (by decide +kernel)) rfl
theorem cw_X8_findCycles {y : my} {index d2 : Nat} : Cw y mX8_findCycles index 0 d2 := ⟨kx_X8_findCycles, tb_in (List.mem_of_getElem? (i := 10) (by decide +kernel)) rfl, by decide +kernel, by decide⟩
theorem ki_X8_findCycles : Cond.instanceMethod yX8_findCycles ∈ gw := tb_in (List.mem_of_getElem? (i := 998) (by decide +kernel)) rfl
theorem ks_X8_findCycles : Cond.selects RX8 yX8_findCycles yX8_findCycles ∈ gw := tb_sel (List.mem_of_getElem? (i := 83) (by decide +kernel)) rfl
abbrev mX8_swap : my := (yX8_swap, cX8_swap, 4, none)
theorem kx_X8_swap : Cond.code mX8_swap.1 mX8_swap.2.1 mX8_swap.2.2.1 mX8_swap.2.2.2 ∈ gw := tb_in (List.mem_of_getElem? (i := 995) (by decide +kernel)) rfl
theorem cw_X8_swap {y : my} {index d2 : Nat} : Cw y mX8_swap index 2 d2 := ⟨kx_X8_swap, tb_in (List.mem_of_getElem? (i := 10) (by decide +kernel)) rfl, by decide +kernel, by decide⟩
theorem ki_X8_swap : Cond.instanceMethod yX8_swap ∈ gw := tb_in (List.mem_of_getElem? (i := 994) (by decide +kernel)) rfl
theorem ks_X8_swap : Cond.selects RX8 yX8_swap yX8_swap ∈ gw := tb_sel (List.mem_of_getElem? (i := 82) (by decide +kernel)) rfl
abbrev mX8_exchange : my := (yX8_exchange, cX8_exchange, 3, (some .int))
theorem kx_X8_exchange : Cond.code mX8_exchange.1 mX8_exchange.2.1 mX8_exchange.2.2.1 mX8_exchange.2.2.2 ∈ gw := tb_in (List.mem_of_getElem? (i := 991) (by decide +kernel)) rfl
theorem cw_X8_exchange {y : my} {index d2 : Nat} : Cw y mX8_exchange index 2 d2 := ⟨kx_X8_exchange, tb_in (List.mem_of_getElem? (i := 10) (by decide +kernel)) rfl, by decide +kernel, by decide⟩
theorem ki_X8_exchange : Cond.instanceMethod yX8_exchange ∈ gw := tb_in (List.mem_of_getElem? (i := 989) (by decide +kernel)) rfl
theorem ks_X8_exchange : Cond.selects RX8 yX8_exchange yX8_exchange ∈ gw := tb_in (List.mem_of_getElem? (i := 990) (by decide +kernel)) rfl
abbrev mX8_back : my := (yX8_back, cX8_back, 1, (some .int))
theorem kx_X8_back : Cond.code mX8_back.1 mX8_back.2.1 mX8_back.2.2.1 mX8_back.2.2.2 ∈ gw := tb_in (List.mem_of_getElem? (i := 1003) (by decide +kernel)) rfl
theorem cw_X8_back {y : my} {index d2 : Nat} : Cw y mX8_back index 0 d2 := ⟨kx_X8_back, tb_in (List.mem_of_getElem? (i := 10) (by decide +kernel)) rfl, by decide +kernel, by decide⟩
theorem ki_X8_back : Cond.instanceMethod yX8_back ∈ gw := tb_in (List.mem_of_getElem? (i := 1001) (by decide +kernel)) rfl
theorem ks_X8_back : Cond.selects RX8 yX8_back yX8_back ∈ gw := tb_in (List.mem_of_getElem? (i := 1002) (by decide +kernel)) rfl
abbrev mX8_cycles : my := (yX8_cycles, cX8_cycles, 1, (some .int))
theorem kx_X8_cycles : Cond.code mX8_cycles.1 mX8_cycles.2.1 mX8_cycles.2.2.1 mX8_cycles.2.2.2 ∈ gw := tb_in (List.mem_of_getElem? (i := 1007) (by decide +kernel)) rfl
theorem cw_X8_cycles {y : my} {index d2 : Nat} : Cw y mX8_cycles index 0 d2 := ⟨kx_X8_cycles, tb_in (List.mem_of_getElem? (i := 10) (by decide +kernel)) rfl, by decide +kernel, by decide⟩
theorem ki_X8_cycles : Cond.instanceMethod yX8_cycles ∈ gw := tb_in (List.mem_of_getElem? (i := 1005) (by decide +kernel)) rfl
theorem ks_X8_cycles : Cond.selects RX8 yX8_cycles yX8_cycles ∈ gw := tb_in (List.mem_of_getElem? (i := 1006) (by decide +kernel)) rfl
abbrev mX8_cycleOf : my := (yX8_cycleOf, cX8_cycleOf, 2, (some .int))
theorem kx_X8_cycleOf : Cond.code mX8_cycleOf.1 mX8_cycleOf.2.1 mX8_cycleOf.2.2.1 mX8_cycleOf.2.2.2 ∈ gw := tb_in (List.mem_of_getElem? (i := 1011) (by decide +kernel)) rfl
theorem cw_X8_cycleOf {y : my} {index d2 : Nat} : Cw y mX8_cycleOf index 1 d2 := ⟨kx_X8_cycleOf, tb_in (List.mem_of_getElem? (i := 10) (by decide +kernel)) rfl, by decide +kernel, by decide⟩
theorem ki_X8_cycleOf : Cond.instanceMethod yX8_cycleOf ∈ gw := tb_in (List.mem_of_getElem? (i := 1009) (by decide +kernel)) rfl
theorem ks_X8_cycleOf : Cond.selects RX8 yX8_cycleOf yX8_cycleOf ∈ gw := tb_in (List.mem_of_getElem? (i := 1010) (by decide +kernel)) rfl
abbrev mX8_cycle : my := (yX8_cycle, cX8_cycle, 6, (some .int))
theorem kx_X8_cycle : Cond.code mX8_cycle.1 mX8_cycle.2.1 mX8_cycle.2.2.1 mX8_cycle.2.2.2 ∈ gw := tb_in (List.mem_of_getElem? (i := 1015) (by decide +kernel)) rfl
theorem cw_X8_cycle {y : my} {index d2 : Nat} : Cw y mX8_cycle index 2 d2 := ⟨kx_X8_cycle, tb_in (List.mem_of_getElem? (i := 10) (by decide +kernel)) rfl, by decide +kernel, by decide⟩
theorem ki_X8_cycle : Cond.instanceMethod yX8_cycle ∈ gw := tb_in (List.mem_of_getElem? (i := 1013) (by decide +kernel)) rfl
theorem ks_X8_cycle : Cond.selects RX8 yX8_cycle yX8_cycle ∈ gw := tb_in (List.mem_of_getElem? (i := 1014) (by decide +kernel)) rfl
abbrev mX8_groupOf : my := (yX8_groupOf, cX8_groupOf, 3, (some .int))
theorem kx_X8_groupOf : Cond.code mX8_groupOf.1 mX8_groupOf.2.1 mX8_groupOf.2.2.1 mX8_groupOf.2.2.2 ∈ gw := tb_in (List.mem_of_getElem? (i := 1027) (by decide +kernel)) rfl
theorem cw_X8_groupOf {y : my} {index d2 : Nat} : Cw y mX8_groupOf index 1 d2 := ⟨kx_X8_groupOf, tb_in (List.mem_of_getElem? (i := 10) (by decide +kernel)) rfl, by decide +kernel, by decide⟩
theorem ki_X8_groupOf : Cond.instanceMethod yX8_groupOf ∈ gw := tb_in (List.mem_of_getElem? (i := 1026) (by decide +kernel)) rfl
theorem ks_X8_groupOf : Cond.selects RX8 yX8_groupOf yX8_groupOf ∈ gw := tb_sel (List.mem_of_getElem? (i := 85) (by decide +kernel)) rfl
abbrev mX8_joins : my := (yX8_joins, cX8_joins, 7, (some .int))
theorem kx_X8_joins : Cond.code mX8_joins.1 mX8_joins.2.1 mX8_joins.2.2.1 mX8_joins.2.2.2 ∈ gw := tb_in (List.mem_of_getElem? (i := 1023) (by decide +kernel)) rfl
theorem cw_X8_joins {y : my} {index d2 : Nat} : Cw y mX8_joins index 1 d2 := ⟨kx_X8_joins, tb_in (List.mem_of_getElem? (i := 10) (by decide +kernel)) rfl, by decide +kernel, by decide⟩
theorem ki_X8_joins : Cond.instanceMethod yX8_joins ∈ gw := tb_in (List.mem_of_getElem? (i := 1022) (by decide +kernel)) rfl
theorem ks_X8_joins : Cond.selects RX8 yX8_joins yX8_joins ∈ gw := tb_sel (List.mem_of_getElem? (i := 84) (by decide +kernel)) rfl
abbrev mX8_join : my := (yX8_join, cX8_join, 1, (some .int))
theorem kx_X8_join : Cond.code mX8_join.1 mX8_join.2.1 mX8_join.2.2.1 mX8_join.2.2.2 ∈ gw := tb_in (List.mem_of_getElem? (i := 1019) (by decide +kernel)) rfl
theorem cw_X8_join {y : my} {index d2 : Nat} : Cw y mX8_join index 0 d2 := ⟨kx_X8_join, tb_in (List.mem_of_getElem? (i := 10) (by decide +kernel)) rfl, by decide +kernel, by decide⟩
theorem ki_X8_join : Cond.instanceMethod yX8_join ∈ gw := tb_in (List.mem_of_getElem? (i := 1017) (by decide +kernel)) rfl
theorem ks_X8_join : Cond.selects RX8 yX8_join yX8_join ∈ gw := tb_in (List.mem_of_getElem? (i := 1018) (by decide +kernel)) rfl
abbrev mX8_leastRound : my := (yX8_leastRound, cX8_leastRound, 6, none)
theorem kx_X8_leastRound : Cond.code mX8_leastRound.1 mX8_leastRound.2.1 mX8_leastRound.2.2.1 mX8_leastRound.2.2.2 ∈ gw := tb_in (List.mem_of_getElem? (i := 1035) (by decide +kernel)) rfl
theorem cw_X8_leastRound {y : my} {index d2 : Nat} : Cw y mX8_leastRound index 0 d2 := ⟨kx_X8_leastRound, tb_in (List.mem_of_getElem? (i := 10) (by decide +kernel)) rfl, by decide +kernel, by decide⟩
theorem ki_X8_leastRound : Cond.instanceMethod yX8_leastRound ∈ gw := tb_in (List.mem_of_getElem? (i := 1034) (by decide +kernel)) rfl
theorem ks_X8_leastRound : Cond.selects RX8 yX8_leastRound yX8_leastRound ∈ gw := tb_sel (List.mem_of_getElem? (i := 86) (by decide +kernel)) rfl
abbrev mX8_greedyRound : my := (yX8_greedyRound, cX8_greedyRound, 5, none)
theorem kx_X8_greedyRound : Cond.code mX8_greedyRound.1 mX8_greedyRound.2.1 mX8_greedyRound.2.2.1 mX8_greedyRound.2.2.2 ∈ gw := tb_in (List.mem_of_getElem? (i := 1039) (by decide +kernel)) rfl
theorem cw_X8_greedyRound {y : my} {index d2 : Nat} : Cw y mX8_greedyRound index 0 d2 := ⟨kx_X8_greedyRound, tb_in (List.mem_of_getElem? (i := 10) (by decide +kernel)) rfl, by decide +kernel, by decide⟩
theorem ki_X8_greedyRound : Cond.instanceMethod yX8_greedyRound ∈ gw := tb_in (List.mem_of_getElem? (i := 1038) (by decide +kernel)) rfl
theorem ks_X8_greedyRound : Cond.selects RX8 yX8_greedyRound yX8_greedyRound ∈ gw := tb_sel (List.mem_of_getElem? (i := 87) (by decide +kernel)) rfl
abbrev mX8_round : my := (yX8_round, cX8_round, 5, (some .int))
theorem kx_X8_round : Cond.code mX8_round.1 mX8_round.2.1 mX8_round.2.2.1 mX8_round.2.2.2 ∈ gw := tb_in (List.mem_of_getElem? (i := 1031) (by decide +kernel)) rfl
theorem cw_X8_round {y : my} {index d2 : Nat} : Cw y mX8_round index 1 d2 := ⟨kx_X8_round, tb_in (List.mem_of_getElem? (i := 10) (by decide +kernel)) rfl, by decide +kernel, by decide⟩
theorem ki_X8_round : Cond.instanceMethod yX8_round ∈ gw := tb_in (List.mem_of_getElem? (i := 1029) (by decide +kernel)) rfl
theorem ks_X8_round : Cond.selects RX8 yX8_round yX8_round ∈ gw := tb_in (List.mem_of_getElem? (i := 1030) (by decide +kernel)) rfl
abbrev mX8_letter : my := (yX8_letter, cX8_letter, 2, (some .int))
theorem kx_X8_letter : Cond.code mX8_letter.1 mX8_letter.2.1 mX8_letter.2.2.1 mX8_letter.2.2.2 ∈ gw := tb_in (List.mem_of_getElem? (i := 1043) (by decide +kernel)) rfl
theorem cw_X8_letter {y : my} {index d2 : Nat} : Cw y mX8_letter index 1 d2 := ⟨kx_X8_letter, tb_in (List.mem_of_getElem? (i := 10) (by decide +kernel)) rfl, by decide +kernel, by decide⟩
theorem ki_X8_letter : Cond.instanceMethod yX8_letter ∈ gw := tb_in (List.mem_of_getElem? (i := 1041) (by decide +kernel)) rfl
theorem ks_X8_letter : Cond.selects RX8 yX8_letter yX8_letter ∈ gw := tb_in (List.mem_of_getElem? (i := 1042) (by decide +kernel)) rfl
abbrev mX8_place : my := (yX8_place, cX8_place, 2, (some .int))
theorem kx_X8_place : Cond.code mX8_place.1 mX8_place.2.1 mX8_place.2.2.1 mX8_place.2.2.2 ∈ gw := tb_in (List.mem_of_getElem? (i := 1047) (by decide +kernel)) rfl
theorem cw_X8_place {y : my} {index d2 : Nat} : Cw y mX8_place index 1 d2 := ⟨kx_X8_place, tb_in (List.mem_of_getElem? (i := 10) (by decide +kernel)) rfl, by decide +kernel, by decide⟩
theorem ki_X8_place : Cond.instanceMethod yX8_place ∈ gw := tb_in (List.mem_of_getElem? (i := 1045) (by decide +kernel)) rfl
theorem ks_X8_place : Cond.selects RX8 yX8_place yX8_place ∈ gw := tb_in (List.mem_of_getElem? (i := 1046) (by decide +kernel)) rfl
abbrev mX8_way : my := (yX8_way, cX8_way, 3, (some .int))
theorem kx_X8_way : Cond.code mX8_way.1 mX8_way.2.1 mX8_way.2.2.1 mX8_way.2.2.2 ∈ gw := tb_in (List.mem_of_getElem? (i := 1051) (by decide +kernel)) rfl
theorem cw_X8_way {y : my} {index d2 : Nat} : Cw y mX8_way index 2 d2 := ⟨kx_X8_way, tb_in (List.mem_of_getElem? (i := 10) (by decide +kernel)) rfl, by decide +kernel, by decide⟩
theorem ki_X8_way : Cond.instanceMethod yX8_way ∈ gw := tb_in (List.mem_of_getElem? (i := 1049) (by decide +kernel)) rfl
theorem ks_X8_way : Cond.selects RX8 yX8_way yX8_way ∈ gw := tb_in (List.mem_of_getElem? (i := 1050) (by decide +kernel)) rfl
abbrev mX8_met : my := (yX8_met, cX8_met, 2, (some .int))
theorem kx_X8_met : Cond.code mX8_met.1 mX8_met.2.1 mX8_met.2.2.1 mX8_met.2.2.2 ∈ gw := tb_in (List.mem_of_getElem? (i := 1063) (by decide +kernel)) rfl
theorem cw_X8_met {y : my} {index d2 : Nat} : Cw y mX8_met index 1 d2 := ⟨kx_X8_met, tb_in (List.mem_of_getElem? (i := 10) (by decide +kernel)) rfl, by decide +kernel, by decide⟩
theorem ki_X8_met : Cond.instanceMethod yX8_met ∈ gw := tb_in (List.mem_of_getElem? (i := 1062) (by decide +kernel)) rfl
theorem ks_X8_met : Cond.selects RX8 yX8_met yX8_met ∈ gw := tb_sel (List.mem_of_getElem? (i := 88) (by decide +kernel)) rfl
abbrev mX8_isTape : my := (yX8_isTape, cX8_isTape, 1, (some .boolean))
theorem kx_X8_isTape : Cond.code mX8_isTape.1 mX8_isTape.2.1 mX8_isTape.2.2.1 mX8_isTape.2.2.2 ∈ gw := tb_in (List.mem_of_getElem? (i := 1058) (by decide +kernel)) rfl
theorem cw_X8_isTape {y : my} {index d2 : Nat} : Cw y mX8_isTape index 1 d2 := ⟨kx_X8_isTape, tb_in (List.mem_of_getElem? (i := 10) (by decide +kernel)) rfl, by decide +kernel, by decide⟩
theorem kt_X8_isTape : Cond.static yX8_isTape ∈ gw := tb_in (List.mem_of_getElem? (i := 1057) (by decide +kernel)) rfl
abbrev mX8_tape : my := (yX8_tape, cX8_tape, 5, (some .int))
theorem kx_X8_tape : Cond.code mX8_tape.1 mX8_tape.2.1 mX8_tape.2.2.1 mX8_tape.2.2.2 ∈ gw := tb_in (List.mem_of_getElem? (i := 1055) (by decide +kernel)) rfl
theorem cw_X8_tape {y : my} {index d2 : Nat} : Cw y mX8_tape index 3 d2 := ⟨kx_X8_tape, tb_in (List.mem_of_getElem? (i := 10) (by decide +kernel)) rfl, by decide +kernel, by decide⟩
theorem ki_X8_tape : Cond.instanceMethod yX8_tape ∈ gw := tb_in (List.mem_of_getElem? (i := 1053) (by decide +kernel)) rfl
theorem ks_X8_tape : Cond.selects RX8 yX8_tape yX8_tape ∈ gw := tb_in (List.mem_of_getElem? (i := 1054) (by decide +kernel)) rfl
abbrev mX8_lose : my := (yX8_lose, cX8_lose, 2, (some .int))
theorem kx_X8_lose : Cond.code mX8_lose.1 mX8_lose.2.1 mX8_lose.2.2.1 mX8_lose.2.2.2 ∈ gw := tb_in (List.mem_of_getElem? (i := 1067) (by decide +kernel)) rfl
theorem cw_X8_lose {y : my} {index d2 : Nat} : Cw y mX8_lose index 1 d2 := ⟨kx_X8_lose, tb_in (List.mem_of_getElem? (i := 10) (by decide +kernel)) rfl, by decide +kernel, by decide⟩
theorem ki_X8_lose : Cond.instanceMethod yX8_lose ∈ gw := tb_in (List.mem_of_getElem? (i := 1065) (by decide +kernel)) rfl
theorem ks_X8_lose : Cond.selects RX8 yX8_lose yX8_lose ∈ gw := tb_in (List.mem_of_getElem? (i := 1066) (by decide +kernel)) rfl
abbrev mX8_lacks : my := (yX8_lacks, cX8_lacks, 4, (some .int))
theorem kx_X8_lacks : Cond.code mX8_lacks.1 mX8_lacks.2.1 mX8_lacks.2.2.1 mX8_lacks.2.2.2 ∈ gw := tb_in (List.mem_of_getElem? (i := 1075) (by decide +kernel)) rfl
theorem cw_X8_lacks {y : my} {index d2 : Nat} : Cw y mX8_lacks index 3 d2 := ⟨kx_X8_lacks, tb_in (List.mem_of_getElem? (i := 10) (by decide +kernel)) rfl, by decide +kernel, by decide⟩
theorem ki_X8_lacks : Cond.instanceMethod yX8_lacks ∈ gw := tb_in (List.mem_of_getElem? (i := 1074) (by decide +kernel)) rfl
theorem ks_X8_lacks : Cond.selects RX8 yX8_lacks yX8_lacks ∈ gw := tb_sel (List.mem_of_getElem? (i := 89) (by decide +kernel)) rfl
abbrev mX8_put : my := (yX8_put, cX8_put, 6, (some .int))
theorem kx_X8_put : Cond.code mX8_put.1 mX8_put.2.1 mX8_put.2.2.1 mX8_put.2.2.2 ∈ gw := tb_in (List.mem_of_getElem? (i := 1071) (by decide +kernel)) rfl
theorem cw_X8_put {y : my} {index d2 : Nat} : Cw y mX8_put index 4 d2 := ⟨kx_X8_put, tb_in (List.mem_of_getElem? (i := 10) (by decide +kernel)) rfl, by decide +kernel, by decide⟩
theorem ki_X8_put : Cond.instanceMethod yX8_put ∈ gw := tb_in (List.mem_of_getElem? (i := 1069) (by decide +kernel)) rfl
theorem ks_X8_put : Cond.selects RX8 yX8_put yX8_put ∈ gw := tb_in (List.mem_of_getElem? (i := 1070) (by decide +kernel)) rfl
abbrev mX8_get : my := (yX8_get, cX8_get, 4, (some .int))
theorem kx_X8_get : Cond.code mX8_get.1 mX8_get.2.1 mX8_get.2.2.1 mX8_get.2.2.2 ∈ gw := tb_in (List.mem_of_getElem? (i := 1080) (by decide +kernel)) rfl
theorem cw_X8_get {y : my} {index d2 : Nat} : Cw y mX8_get index 3 d2 := ⟨kx_X8_get, tb_in (List.mem_of_getElem? (i := 10) (by decide +kernel)) rfl, by decide +kernel, by decide⟩
theorem ki_X8_get : Cond.instanceMethod yX8_get ∈ gw := tb_in (List.mem_of_getElem? (i := 1078) (by decide +kernel)) rfl
theorem ks_X8_get : Cond.selects RX8 yX8_get yX8_get ∈ gw := tb_in (List.mem_of_getElem? (i := 1079) (by decide +kernel)) rfl
abbrev mX8_isWithin : my := (yX8_isWithin, cX8_isWithin, 4, (some .boolean))
theorem kx_X8_isWithin : Cond.code mX8_isWithin.1 mX8_isWithin.2.1 mX8_isWithin.2.2.1 mX8_isWithin.2.2.2 ∈ gw := tb_in (List.mem_of_getElem? (i := 1089) (by decide +kernel)) rfl
theorem cw_X8_isWithin {y : my} {index d2 : Nat} : Cw y mX8_isWithin index 3 d2 := ⟨kx_X8_isWithin, tb_in (List.mem_of_getElem? (i := 10) (by decide +kernel)) rfl, by decide +kernel, by decide⟩
theorem ki_X8_isWithin : Cond.instanceMethod yX8_isWithin ∈ gw := tb_in (List.mem_of_getElem? (i := 1088) (by decide +kernel)) rfl
theorem ks_X8_isWithin : Cond.selects RX8 yX8_isWithin yX8_isWithin ∈ gw := tb_sel (List.mem_of_getElem? (i := 90) (by decide +kernel)) rfl
abbrev mX8_copy : my := (yX8_copy, cX8_copy, 7, (some .int))
theorem kx_X8_copy : Cond.code mX8_copy.1 mX8_copy.2.1 mX8_copy.2.2.1 mX8_copy.2.2.2 ∈ gw := tb_in (List.mem_of_getElem? (i := 1085) (by decide +kernel)) rfl
theorem cw_X8_copy {y : my} {index d2 : Nat} : Cw y mX8_copy index 5 d2 := ⟨kx_X8_copy, tb_in (List.mem_of_getElem? (i := 10) (by decide +kernel)) rfl, by decide +kernel, by decide⟩
theorem ki_X8_copy : Cond.instanceMethod yX8_copy ∈ gw := tb_in (List.mem_of_getElem? (i := 1083) (by decide +kernel)) rfl
theorem ks_X8_copy : Cond.selects RX8 yX8_copy yX8_copy ∈ gw := tb_in (List.mem_of_getElem? (i := 1084) (by decide +kernel)) rfl
abbrev mX8_print : my := (yX8_print, cX8_print, 6, (some .int))
theorem kx_X8_print : Cond.code mX8_print.1 mX8_print.2.1 mX8_print.2.2.1 mX8_print.2.2.2 ∈ gw := tb_in (List.mem_of_getElem? (i := 1093) (by decide +kernel)) rfl
theorem cw_X8_print {y : my} {index d2 : Nat} : Cw y mX8_print index 4 d2 := ⟨kx_X8_print, tb_in (List.mem_of_getElem? (i := 10) (by decide +kernel)) rfl, by decide +kernel, by decide⟩
theorem ki_X8_print : Cond.instanceMethod yX8_print ∈ gw := tb_in (List.mem_of_getElem? (i := 1091) (by decide +kernel)) rfl
theorem ks_X8_print : Cond.selects RX8 yX8_print yX8_print ∈ gw := tb_in (List.mem_of_getElem? (i := 1092) (by decide +kernel)) rfl
abbrev mX8_find : my := (yX8_find, cX8_find, 10, (some .int))
theorem kx_X8_find : Cond.code mX8_find.1 mX8_find.2.1 mX8_find.2.2.1 mX8_find.2.2.2 ∈ gw := tb_in (List.mem_of_getElem? (i := 1097) (by decide +kernel)) rfl
theorem cw_X8_find {y : my} {index d2 : Nat} : Cw y mX8_find index 4 d2 := ⟨kx_X8_find, tb_in (List.mem_of_getElem? (i := 10) (by decide +kernel)) rfl, by decide +kernel, by decide⟩
theorem ki_X8_find : Cond.instanceMethod yX8_find ∈ gw := tb_in (List.mem_of_getElem? (i := 1095) (by decide +kernel)) rfl
theorem ks_X8_find : Cond.selects RX8 yX8_find yX8_find ∈ gw := tb_in (List.mem_of_getElem? (i := 1096) (by decide +kernel)) rfl
abbrev mX8_found : my := (yX8_found, cX8_found, 1, (some .int))
theorem kx_X8_found : Cond.code mX8_found.1 mX8_found.2.1 mX8_found.2.2.1 mX8_found.2.2.2 ∈ gw := tb_in (List.mem_of_getElem? (i := 1102) (by decide +kernel)) rfl
theorem cw_X8_found {y : my} {index d2 : Nat} : Cw y mX8_found index 0 d2 := ⟨kx_X8_found, tb_in (List.mem_of_getElem? (i := 10) (by decide +kernel)) rfl, by decide +kernel, by decide⟩
theorem ki_X8_found : Cond.instanceMethod yX8_found ∈ gw := tb_in (List.mem_of_getElem? (i := 1100) (by decide +kernel)) rfl
theorem ks_X8_found : Cond.selects RX8 yX8_found yX8_found ∈ gw := tb_in (List.mem_of_getElem? (i := 1101) (by decide +kernel)) rfl
abbrev mX8_noLetters : my := (yX8_noLetters, cX8_noLetters, 4, (some .int))
theorem kx_X8_noLetters : Cond.code mX8_noLetters.1 mX8_noLetters.2.1 mX8_noLetters.2.2.1 mX8_noLetters.2.2.2 ∈ gw := tb_in (List.mem_of_getElem? (i := 1110) (by decide +kernel)) rfl
theorem cw_X8_noLetters {y : my} {index d2 : Nat} : Cw y mX8_noLetters index 1 d2 := ⟨kx_X8_noLetters, tb_in (List.mem_of_getElem? (i := 10) (by decide +kernel)) rfl, by decide +kernel, by decide⟩
theorem ki_X8_noLetters : Cond.instanceMethod yX8_noLetters ∈ gw := tb_in (List.mem_of_getElem? (i := 1109) (by decide +kernel)) rfl
theorem ks_X8_noLetters : Cond.selects RX8 yX8_noLetters yX8_noLetters ∈ gw := tb_sel (List.mem_of_getElem? (i := 91) (by decide +kernel)) rfl
abbrev mX8_twice : my := (yX8_twice, cX8_twice, 7, (some .int))
theorem kx_X8_twice : Cond.code mX8_twice.1 mX8_twice.2.1 mX8_twice.2.2.1 mX8_twice.2.2.2 ∈ gw := tb_in (List.mem_of_getElem? (i := 1106) (by decide +kernel)) rfl
theorem cw_X8_twice {y : my} {index d2 : Nat} : Cw y mX8_twice index 1 d2 := ⟨kx_X8_twice, tb_in (List.mem_of_getElem? (i := 10) (by decide +kernel)) rfl, by decide +kernel, by decide⟩
theorem ki_X8_twice : Cond.instanceMethod yX8_twice ∈ gw := tb_in (List.mem_of_getElem? (i := 1104) (by decide +kernel)) rfl
theorem ks_X8_twice : Cond.selects RX8 yX8_twice yX8_twice ∈ gw := tb_in (List.mem_of_getElem? (i := 1105) (by decide +kernel)) rfl
abbrev mX8_parts : my := (yX8_parts, cX8_parts, 8, (some .int))
theorem kx_X8_parts : Cond.code mX8_parts.1 mX8_parts.2.1 mX8_parts.2.2.1 mX8_parts.2.2.2 ∈ gw := tb_in (List.mem_of_getElem? (i := 1114) (by decide +kernel)) rfl
theorem cw_X8_parts {y : my} {index d2 : Nat} : Cw y mX8_parts index 1 d2 := ⟨kx_X8_parts, tb_in (List.mem_of_getElem? (i := 10) (by decide +kernel)) rfl, by decide +kernel, by decide⟩
theorem ki_X8_parts : Cond.instanceMethod yX8_parts ∈ gw := tb_in (List.mem_of_getElem? (i := 1112) (by decide +kernel)) rfl
theorem ks_X8_parts : Cond.selects RX8 yX8_parts yX8_parts ∈ gw := tb_in (List.mem_of_getElem? (i := 1113) (by decide +kernel)) rfl
abbrev mX8_part : my := (yX8_part, cX8_part, 2, (some .int))
theorem kx_X8_part : Cond.code mX8_part.1 mX8_part.2.1 mX8_part.2.2.1 mX8_part.2.2.2 ∈ gw := tb_in (List.mem_of_getElem? (i := 1118) (by decide +kernel)) rfl
theorem cw_X8_part {y : my} {index d2 : Nat} : Cw y mX8_part index 1 d2 := ⟨kx_X8_part, tb_in (List.mem_of_getElem? (i := 10) (by decide +kernel)) rfl, by decide +kernel, by decide⟩
theorem ki_X8_part : Cond.instanceMethod yX8_part ∈ gw := tb_in (List.mem_of_getElem? (i := 1116) (by decide +kernel)) rfl
theorem ks_X8_part : Cond.selects RX8 yX8_part yX8_part ∈ gw := tb_in (List.mem_of_getElem? (i := 1117) (by decide +kernel)) rfl
abbrev mX8_inverse : my := (yX8_inverse, cX8_inverse, 3, (some .int))
theorem kx_X8_inverse : Cond.code mX8_inverse.1 mX8_inverse.2.1 mX8_inverse.2.2.1 mX8_inverse.2.2.2 ∈ gw := tb_in (List.mem_of_getElem? (i := 1130) (by decide +kernel)) rfl
theorem cw_X8_inverse {y : my} {index d2 : Nat} : Cw y mX8_inverse index 1 d2 := ⟨kx_X8_inverse, tb_in (List.mem_of_getElem? (i := 10) (by decide +kernel)) rfl, by decide +kernel, by decide⟩
theorem ki_X8_inverse : Cond.instanceMethod yX8_inverse ∈ gw := tb_in (List.mem_of_getElem? (i := 1129) (by decide +kernel)) rfl
theorem ks_X8_inverse : Cond.selects RX8 yX8_inverse yX8_inverse ∈ gw := tb_sel (List.mem_of_getElem? (i := 93) (by decide +kernel)) rfl
abbrev mX8_leastLength : my := (yX8_leastLength, cX8_leastLength, 10, (some .int))
theorem kx_X8_leastLength : Cond.code mX8_leastLength.1 mX8_leastLength.2.1 mX8_leastLength.2.2.1 mX8_leastLength.2.2.2 ∈ gw := tb_in (List.mem_of_getElem? (i := 1126) (by decide +kernel)) rfl
theorem cw_X8_leastLength {y : my} {index d2 : Nat} : Cw y mX8_leastLength index 1 d2 := ⟨kx_X8_leastLength, tb_in (List.mem_of_getElem? (i := 10) (by decide +kernel)) rfl, by decide +kernel, by decide⟩
theorem ki_X8_leastLength : Cond.instanceMethod yX8_leastLength ∈ gw := tb_in (List.mem_of_getElem? (i := 1125) (by decide +kernel)) rfl
theorem ks_X8_leastLength : Cond.selects RX8 yX8_leastLength yX8_leastLength ∈ gw := tb_sel (List.mem_of_getElem? (i := 92) (by decide +kernel)) rfl
abbrev mX8_solve : my := (yX8_solve, cX8_solve, 13, none)
theorem kx_X8_solve : Cond.code mX8_solve.1 mX8_solve.2.1 mX8_solve.2.2.1 mX8_solve.2.2.2 ∈ gw := tb_in (List.mem_of_getElem? (i := 1134) (by decide +kernel)) rfl
theorem cw_X8_solve {y : my} {index d2 : Nat} : Cw y mX8_solve index 2 d2 := ⟨kx_X8_solve, tb_in (List.mem_of_getElem? (i := 10) (by decide +kernel)) rfl, by decide +kernel, by decide⟩
theorem ki_X8_solve : Cond.instanceMethod yX8_solve ∈ gw := tb_in (List.mem_of_getElem? (i := 1133) (by decide +kernel)) rfl
theorem ks_X8_solve : Cond.selects RX8 yX8_solve yX8_solve ∈ gw := tb_sel (List.mem_of_getElem? (i := 94) (by decide +kernel)) rfl
abbrev mX8_recurrence : my := (yX8_recurrence, cX8_recurrence, 2, (some .int))
theorem kx_X8_recurrence : Cond.code mX8_recurrence.1 mX8_recurrence.2.1 mX8_recurrence.2.2.1 mX8_recurrence.2.2.2 ∈ gw := tb_in (List.mem_of_getElem? (i := 1122) (by decide +kernel)) rfl
theorem cw_X8_recurrence {y : my} {index d2 : Nat} : Cw y mX8_recurrence index 1 d2 := ⟨kx_X8_recurrence, tb_in (List.mem_of_getElem? (i := 10) (by decide +kernel)) rfl, by decide +kernel, by decide⟩
theorem ki_X8_recurrence : Cond.instanceMethod yX8_recurrence ∈ gw := tb_in (List.mem_of_getElem? (i := 1120) (by decide +kernel)) rfl
theorem ks_X8_recurrence : Cond.selects RX8 yX8_recurrence yX8_recurrence ∈ gw := tb_in (List.mem_of_getElem? (i := 1121) (by decide +kernel)) rfl
abbrev mX8_coefficient : my := (yX8_coefficient, cX8_coefficient, 2, (some .int))
theorem kx_X8_coefficient : Cond.code mX8_coefficient.1 mX8_coefficient.2.1 mX8_coefficient.2.2.1 mX8_coefficient.2.2.2 ∈ gw := tb_in (List.mem_of_getElem? (i := 1138) (by decide +kernel)) rfl
theorem cw_X8_coefficient {y : my} {index d2 : Nat} : Cw y mX8_coefficient index 1 d2 := ⟨kx_X8_coefficient, tb_in (List.mem_of_getElem? (i := 10) (by decide +kernel)) rfl, by decide +kernel, by decide⟩
theorem ki_X8_coefficient : Cond.instanceMethod yX8_coefficient ∈ gw := tb_in (List.mem_of_getElem? (i := 1136) (by decide +kernel)) rfl
theorem ks_X8_coefficient : Cond.selects RX8 yX8_coefficient yX8_coefficient ∈ gw := tb_in (List.mem_of_getElem? (i := 1137) (by decide +kernel)) rfl
abbrev mX8_count : my := (yX8_count, cX8_count, 2, (some .int))
theorem kx_X8_count : Cond.code mX8_count.1 mX8_count.2.1 mX8_count.2.2.1 mX8_count.2.2.2 ∈ gw := tb_in (List.mem_of_getElem? (i := 1142) (by decide +kernel)) rfl
theorem cw_X8_count {y : my} {index d2 : Nat} : Cw y mX8_count index 1 d2 := ⟨kx_X8_count, tb_in (List.mem_of_getElem? (i := 10) (by decide +kernel)) rfl, by decide +kernel, by decide⟩
theorem ki_X8_count : Cond.instanceMethod yX8_count ∈ gw := tb_in (List.mem_of_getElem? (i := 1140) (by decide +kernel)) rfl
theorem ks_X8_count : Cond.selects RX8 yX8_count yX8_count ∈ gw := tb_in (List.mem_of_getElem? (i := 1141) (by decide +kernel)) rfl
abbrev mX8_digest : my := (yX8_digest, cX8_digest, 4, (some .long))
theorem kx_X8_digest : Cond.code mX8_digest.1 mX8_digest.2.1 mX8_digest.2.2.1 mX8_digest.2.2.2 ∈ gw := tb_in (List.mem_of_getElem? (i := 1146) (by decide +kernel)) rfl
theorem cw_X8_digest {y : my} {index d2 : Nat} : Cw y mX8_digest index 0 d2 := ⟨kx_X8_digest, tb_in (List.mem_of_getElem? (i := 10) (by decide +kernel)) rfl, by decide +kernel, by decide⟩
theorem ki_X8_digest : Cond.instanceMethod yX8_digest ∈ gw := tb_in (List.mem_of_getElem? (i := 1144) (by decide +kernel)) rfl
theorem ks_X8_digest : Cond.selects RX8 yX8_digest yX8_digest ∈ gw := tb_in (List.mem_of_getElem? (i := 1145) (by decide +kernel)) rfl
abbrev mJ13_bitCount_95d88 : my := (yJ13_bitCount_95d88, cJ13_bitCount_95d88, 2, (some .int))
theorem kx_J13_bitCount_95d88 : Cond.code mJ13_bitCount_95d88.1 mJ13_bitCount_95d88.2.1 mJ13_bitCount_95d88.2.2.1 mJ13_bitCount_95d88.2.2.2 ∈ gw := tb_in (List.mem_of_getElem? (i := 698) (by decide +kernel)) rfl
theorem cw_J13_bitCount_95d88 {y : my} {index d2 : Nat} : Cw y mJ13_bitCount_95d88 index 1 d2 := ⟨kx_J13_bitCount_95d88, tb_in (List.mem_of_getElem? (i := 13) (by decide +kernel)) rfl, by decide +kernel, by decide⟩
theorem kt_J13_bitCount_95d88 : Cond.static yJ13_bitCount_95d88 ∈ gw := tb_in (List.mem_of_getElem? (i := 697) (by decide +kernel)) rfl
abbrev mJ9_min_7cf53 : my := (yJ9_min_7cf53, cJ9_min_7cf53, 2, (some .int))
theorem kx_J9_min_7cf53 : Cond.code mJ9_min_7cf53.1 mJ9_min_7cf53.2.1 mJ9_min_7cf53.2.2.1 mJ9_min_7cf53.2.2.2 ∈ gw := tb_in (List.mem_of_getElem? (i := 315) (by decide +kernel)) rfl
theorem cw_J9_min_7cf53 {y : my} {index d2 : Nat} : Cw y mJ9_min_7cf53 index 2 d2 := ⟨kx_J9_min_7cf53, tb_in (List.mem_of_getElem? (i := 11) (by decide +kernel)) rfl, by decide +kernel, by decide⟩
theorem kt_J9_min_7cf53 : Cond.static yJ9_min_7cf53 ∈ gw := tb_in (List.mem_of_getElem? (i := 314) (by decide +kernel)) rfl
abbrev mJ7_rangeCheck_23922 : my := (yJ7_rangeCheck_23922, cJ7_rangeCheck_23922, 3, none)
theorem kx_J7_rangeCheck_23922 : Cond.code mJ7_rangeCheck_23922.1 mJ7_rangeCheck_23922.2.1 mJ7_rangeCheck_23922.2.2.1 mJ7_rangeCheck_23922.2.2.2 ∈ gw := tb_in (List.mem_of_getElem? (i := 371) (by decide +kernel)) rfl
theorem cw_J7_rangeCheck_23922 {y : my} {index d2 : Nat} : Cw y mJ7_rangeCheck_23922 index 3 d2 := ⟨kx_J7_rangeCheck_23922, tb_in (List.mem_of_getElem? (i := 5) (by decide +kernel)) rfl, by decide +kernel, by decide⟩
theorem kt_J7_rangeCheck_23922 : Cond.static yJ7_rangeCheck_23922 ∈ gw := tb_in (List.mem_of_getElem? (i := 370) (by decide +kernel)) rfl
abbrev mJ7_fill_d0a16 : my := (yJ7_fill_d0a16, cJ7_fill_d0a16, 5, none)
theorem kx_J7_fill_d0a16 : Cond.code mJ7_fill_d0a16.1 mJ7_fill_d0a16.2.1 mJ7_fill_d0a16.2.2.1 mJ7_fill_d0a16.2.2.2 ∈ gw := tb_in (List.mem_of_getElem? (i := 690) (by decide +kernel)) rfl
theorem cw_J7_fill_d0a16 {y : my} {index d2 : Nat} : Cw y mJ7_fill_d0a16 index 2 d2 := ⟨kx_J7_fill_d0a16, tb_in (List.mem_of_getElem? (i := 5) (by decide +kernel)) rfl, by decide +kernel, by decide⟩
theorem kt_J7_fill_d0a16 : Cond.static yJ7_fill_d0a16 ∈ gw := tb_in (List.mem_of_getElem? (i := 689) (by decide +kernel)) rfl
abbrev mJ7_fill_53178 : my := (yJ7_fill_53178, cJ7_fill_53178, 4, none)
theorem kx_J7_fill_53178 : Cond.code mJ7_fill_53178.1 mJ7_fill_53178.2.1 mJ7_fill_53178.2.2.1 mJ7_fill_53178.2.2.2 ∈ gw := tb_in (List.mem_of_getElem? (i := 98) (by decide +kernel)) rfl
theorem cw_J7_fill_53178 {y : my} {index d2 : Nat} : Cw y mJ7_fill_53178 index 2 d2 := ⟨kx_J7_fill_53178, tb_in (List.mem_of_getElem? (i := 5) (by decide +kernel)) rfl, by decide +kernel, by decide⟩
theorem kt_J7_fill_53178 : Cond.static yJ7_fill_53178 ∈ gw := tb_in (List.mem_of_getElem? (i := 97) (by decide +kernel)) rfl
abbrev mJ7_fill_fda19 : my := (yJ7_fill_fda19, cJ7_fill_fda19, 5, none)
theorem kx_J7_fill_fda19 : Cond.code mJ7_fill_fda19.1 mJ7_fill_fda19.2.1 mJ7_fill_fda19.2.2.1 mJ7_fill_fda19.2.2.2 ∈ gw := tb_in (List.mem_of_getElem? (i := 368) (by decide +kernel)) rfl
theorem cw_J7_fill_fda19 {y : my} {index d2 : Nat} : Cw y mJ7_fill_fda19 index 4 d2 := ⟨kx_J7_fill_fda19, tb_in (List.mem_of_getElem? (i := 5) (by decide +kernel)) rfl, by decide +kernel, by decide⟩
theorem kt_J7_fill_fda19 : Cond.static yJ7_fill_fda19 ∈ gw := tb_in (List.mem_of_getElem? (i := 367) (by decide +kernel)) rfl
abbrev mJ7_fill_eb02e : my := (yJ7_fill_eb02e, cJ7_fill_eb02e, 5, none)
theorem kx_J7_fill_eb02e : Cond.code mJ7_fill_eb02e.1 mJ7_fill_eb02e.2.1 mJ7_fill_eb02e.2.2.1 mJ7_fill_eb02e.2.2.2 ∈ gw := tb_in (List.mem_of_getElem? (i := 578) (by decide +kernel)) rfl
theorem cw_J7_fill_eb02e {y : my} {index d2 : Nat} : Cw y mJ7_fill_eb02e index 4 d2 := ⟨kx_J7_fill_eb02e, tb_in (List.mem_of_getElem? (i := 5) (by decide +kernel)) rfl, by decide +kernel, by decide⟩
theorem kt_J7_fill_eb02e : Cond.static yJ7_fill_eb02e ∈ gw := tb_in (List.mem_of_getElem? (i := 577) (by decide +kernel)) rfl
abbrev mL_law : my := (yL_law, cL_law, 4, (some .boolean))
end
section
theorem dX0_init_0 : decode cX0_init 0 = .ok (.aload_n 0, 1) := by decide +kernel
theorem dX0_init_1 : decode cX0_init 1 = .ok (.invokespecial 3, 3) := by decide +kernel
theorem dX0_init_4 : decode cX0_init 4 = .ok (.aload_n 0, 1) := by decide +kernel
theorem dX0_init_5 : decode cX0_init 5 = .ok (.sipush 200, 3) := by decide +kernel
theorem dX0_init_8 : decode cX0_init 8 = .ok (.newarray .int, 2) := by decide +kernel
theorem dX0_init_10 : decode cX0_init 10 = .ok (.putfield 9, 3) := by decide +kernel
theorem dX0_init_13 : decode cX0_init 13 = .ok (.return_, 1) := by decide +kernel
theorem dX0_divide_0 : decode cX0_divide 0 = .ok (.iconst 0, 1) := by decide +kernel
theorem dX0_divide_1 : decode cX0_divide 1 = .ok (.istore_n 3, 1) := by decide +kernel
theorem dX0_divide_2 : decode cX0_divide 2 = .ok (.iconst 0, 1) := by decide +kernel
theorem dX0_divide_3 : decode cX0_divide 3 = .ok (.istore 4, 2) := by decide +kernel
theorem dX0_divide_5 : decode cX0_divide 5 = .ok (.iconst 0, 1) := by decide +kernel
theorem dX0_divide_6 : decode cX0_divide 6 = .ok (.istore 5, 2) := by decide +kernel
theorem dX0_divide_8 : decode cX0_divide 8 = .ok (.iload 5, 2) := by decide +kernel
theorem dX0_divide_10 : decode cX0_divide 10 = .ok (.iload_n 2, 1) := by decide +kernel
theorem dX0_divide_11 : decode cX0_divide 11 = .ok (.if_icmp .ge 110, 3) := by decide +kernel
theorem dX0_divide_14 : decode cX0_divide 14 = .ok (.iload 4, 2) := by decide +kernel
theorem dX0_divide_16 : decode cX0_divide 16 = .ok (.iload_n 2, 1) := by decide +kernel
theorem dX0_divide_17 : decode cX0_divide 17 = .ok (.if_icmp .ge 104, 3) := by decide +kernel
theorem dX0_divide_20 : decode cX0_divide 20 = .ok (.iload 4, 2) := by decide +kernel
theorem dX0_divide_22 : decode cX0_divide 22 = .ok (.istore 6, 2) := by decide +kernel
theorem dX0_divide_24 : decode cX0_divide 24 = .ok (.iload 4, 2) := by decide +kernel
theorem dX0_divide_26 : decode cX0_divide 26 = .ok (.iconst 1, 1) := by decide +kernel
theorem dX0_divide_27 : decode cX0_divide 27 = .ok (.iadd, 1) := by decide +kernel
theorem dX0_divide_28 : decode cX0_divide 28 = .ok (.istore 7, 2) := by decide +kernel
theorem dX0_divide_30 : decode cX0_divide 30 = .ok (.iload 7, 2) := by decide +kernel
theorem dX0_divide_32 : decode cX0_divide 32 = .ok (.iload_n 2, 1) := by decide +kernel
theorem dX0_divide_33 : decode cX0_divide 33 = .ok (.if_icmp .ge 42, 3) := by decide +kernel
theorem dX0_divide_36 : decode cX0_divide 36 = .ok (.aload_n 1, 1) := by decide +kernel
theorem dX0_divide_37 : decode cX0_divide 37 = .ok (.iload 6, 2) := by decide +kernel
theorem dX0_divide_39 : decode cX0_divide 39 = .ok (.iaload, 1) := by decide +kernel
theorem dX0_divide_40 : decode cX0_divide 40 = .ok (.aload_n 1, 1) := by decide +kernel
theorem dX0_divide_41 : decode cX0_divide 41 = .ok (.iload 7, 2) := by decide +kernel
theorem dX0_divide_43 : decode cX0_divide 43 = .ok (.iaload, 1) := by decide +kernel
theorem dX0_divide_44 : decode cX0_divide 44 = .ok (.if_icmp .gt 31, 3) := by decide +kernel
theorem dX0_divide_47 : decode cX0_divide 47 = .ok (.aload_n 1, 1) := by decide +kernel
theorem dX0_divide_48 : decode cX0_divide 48 = .ok (.iload 6, 2) := by decide +kernel
theorem dX0_divide_50 : decode cX0_divide 50 = .ok (.iaload, 1) := by decide +kernel
theorem dX0_divide_51 : decode cX0_divide 51 = .ok (.aload_n 1, 1) := by decide +kernel
theorem dX0_divide_52 : decode cX0_divide 52 = .ok (.iload 7, 2) := by decide +kernel
theorem dX0_divide_54 : decode cX0_divide 54 = .ok (.iaload, 1) := by decide +kernel
theorem dX0_divide_55 : decode cX0_divide 55 = .ok (.if_icmp .ge 8, 3) := by decide +kernel
theorem dX0_divide_58 : decode cX0_divide 58 = .ok (.iload 4, 2) := by decide +kernel
theorem dX0_divide_60 : decode cX0_divide 60 = .ok (.goto 7, 3) := by decide +kernel
theorem dX0_divide_63 : decode cX0_divide 63 = .ok (.iload 6, 2) := by decide +kernel
theorem dX0_divide_65 : decode cX0_divide 65 = .ok (.iconst 1, 1) := by decide +kernel
theorem dX0_divide_66 : decode cX0_divide 66 = .ok (.iadd, 1) := by decide +kernel
theorem dX0_divide_67 : decode cX0_divide 67 = .ok (.istore 6, 2) := by decide +kernel
theorem dX0_divide_69 : decode cX0_divide 69 = .ok (.iinc 7 1, 3) := by decide +kernel
theorem dX0_divide_72 : decode cX0_divide 72 = .ok (.goto (-42), 3) := by decide +kernel
theorem dX0_divide_75 : decode cX0_divide 75 = .ok (.iload 7, 2) := by decide +kernel
theorem dX0_divide_77 : decode cX0_divide 77 = .ok (.iload 6, 2) := by decide +kernel
theorem dX0_divide_79 : decode cX0_divide 79 = .ok (.isub, 1) := by decide +kernel
theorem dX0_divide_80 : decode cX0_divide 80 = .ok (.istore 8, 2) := by decide +kernel
theorem dX0_divide_82 : decode cX0_divide 82 = .ok (.iload 4, 2) := by decide +kernel
theorem dX0_divide_84 : decode cX0_divide 84 = .ok (.iload 6, 2) := by decide +kernel
theorem dX0_divide_86 : decode cX0_divide 86 = .ok (.if_icmp .gt 29, 3) := by decide +kernel
theorem dX0_divide_89 : decode cX0_divide 89 = .ok (.iload_n 3, 1) := by decide +kernel
theorem dX0_divide_90 : decode cX0_divide 90 = .ok (.iload_n 2, 1) := by decide +kernel
theorem dX0_divide_91 : decode cX0_divide 91 = .ok (.if_icmp .ge 24, 3) := by decide +kernel
theorem dX0_divide_94 : decode cX0_divide 94 = .ok (.aload_n 0, 1) := by decide +kernel
theorem dX0_divide_95 : decode cX0_divide 95 = .ok (.getfield 9, 3) := by decide +kernel
theorem dX0_divide_98 : decode cX0_divide 98 = .ok (.iload_n 3, 1) := by decide +kernel
theorem dX0_divide_99 : decode cX0_divide 99 = .ok (.iload 4, 2) := by decide +kernel
theorem dX0_divide_101 : decode cX0_divide 101 = .ok (.iastore, 1) := by decide +kernel
theorem dX0_divide_102 : decode cX0_divide 102 = .ok (.iload 4, 2) := by decide +kernel
theorem dX0_divide_104 : decode cX0_divide 104 = .ok (.iload 8, 2) := by decide +kernel
theorem dX0_divide_106 : decode cX0_divide 106 = .ok (.iadd, 1) := by decide +kernel
theorem dX0_divide_107 : decode cX0_divide 107 = .ok (.istore 4, 2) := by decide +kernel
theorem dX0_divide_109 : decode cX0_divide 109 = .ok (.iinc 3 1, 3) := by decide +kernel
theorem dX0_divide_112 : decode cX0_divide 112 = .ok (.goto (-30), 3) := by decide +kernel
theorem dX0_divide_115 : decode cX0_divide 115 = .ok (.iinc 5 1, 3) := by decide +kernel
theorem dX0_divide_118 : decode cX0_divide 118 = .ok (.goto (-110), 3) := by decide +kernel
theorem dX0_divide_121 : decode cX0_divide 121 = .ok (.iload_n 3, 1) := by decide +kernel
theorem dX0_divide_122 : decode cX0_divide 122 = .ok (.ifCond .le 8, 3) := by decide +kernel
theorem dX0_divide_125 : decode cX0_divide 125 = .ok (.aload_n 0, 1) := by decide +kernel
theorem dX0_divide_126 : decode cX0_divide 126 = .ok (.iload_n 3, 1) := by decide +kernel
theorem dX0_divide_127 : decode cX0_divide 127 = .ok (.putfield 15, 3) := by decide +kernel
theorem dX0_divide_130 : decode cX0_divide 130 = .ok (.iload_n 3, 1) := by decide +kernel
theorem dX0_divide_131 : decode cX0_divide 131 = .ok (.ireturn, 1) := by decide +kernel
theorem dX1_init_0 : decode cX1_init 0 = .ok (.aload_n 0, 1) := by decide +kernel
theorem dX1_init_1 : decode cX1_init 1 = .ok (.invokespecial 3, 3) := by decide +kernel
theorem dX1_init_4 : decode cX1_init 4 = .ok (.aload_n 0, 1) := by decide +kernel
theorem dX1_init_5 : decode cX1_init 5 = .ok (.sipush 201, 3) := by decide +kernel
theorem dX1_init_8 : decode cX1_init 8 = .ok (.newarray .int, 2) := by decide +kernel
theorem dX1_init_10 : decode cX1_init 10 = .ok (.putfield 9, 3) := by decide +kernel
theorem dX1_init_13 : decode cX1_init 13 = .ok (.aload_n 0, 1) := by decide +kernel
theorem dX1_init_14 : decode cX1_init 14 = .ok (.sipush 201, 3) := by decide +kernel
theorem dX1_init_17 : decode cX1_init 17 = .ok (.newarray .int, 2) := by decide +kernel
theorem dX1_init_19 : decode cX1_init 19 = .ok (.putfield 15, 3) := by decide +kernel
theorem dX1_init_22 : decode cX1_init 22 = .ok (.aload_n 0, 1) := by decide +kernel
theorem dX1_init_23 : decode cX1_init 23 = .ok (.sipush 201, 3) := by decide +kernel
theorem dX1_init_26 : decode cX1_init 26 = .ok (.newarray .int, 2) := by decide +kernel
theorem dX1_init_28 : decode cX1_init 28 = .ok (.putfield 18, 3) := by decide +kernel
theorem dX1_init_31 : decode cX1_init 31 = .ok (.aload_n 0, 1) := by decide +kernel
theorem dX1_init_32 : decode cX1_init 32 = .ok (.iconst 2, 1) := by decide +kernel
theorem dX1_init_33 : decode cX1_init 33 = .ok (.putfield 21, 3) := by decide +kernel
theorem dX1_init_36 : decode cX1_init 36 = .ok (.return_, 1) := by decide +kernel
theorem dX1_coefficientAt_0 : decode cX1_coefficientAt 0 = .ok (.aload_n 0, 1) := by decide +kernel
theorem dX1_coefficientAt_1 : decode cX1_coefficientAt 1 = .ok (.getfield 21, 3) := by decide +kernel
theorem dX1_coefficientAt_4 : decode cX1_coefficientAt 4 = .ok (.aload_n 0, 1) := by decide +kernel
theorem dX1_coefficientAt_5 : decode cX1_coefficientAt 5 = .ok (.getfield 9, 3) := by decide +kernel
theorem dX1_coefficientAt_8 : decode cX1_coefficientAt 8 = .ok (.iload_n 1, 1) := by decide +kernel
theorem dX1_coefficientAt_9 : decode cX1_coefficientAt 9 = .ok (.iaload, 1) := by decide +kernel
theorem dX1_coefficientAt_10 : decode cX1_coefficientAt 10 = .ok (.isub, 1) := by decide +kernel
theorem dX1_coefficientAt_11 : decode cX1_coefficientAt 11 = .ok (.aload_n 0, 1) := by decide +kernel
theorem dX1_coefficientAt_12 : decode cX1_coefficientAt 12 = .ok (.getfield 21, 3) := by decide +kernel
theorem dX1_coefficientAt_15 : decode cX1_coefficientAt 15 = .ok (.irem, 1) := by decide +kernel
theorem dX1_coefficientAt_16 : decode cX1_coefficientAt 16 = .ok (.ireturn, 1) := by decide +kernel
theorem dX1_learn_0 : decode cX1_learn 0 = .ok (.aload_n 0, 1) := by decide +kernel
theorem dX1_learn_1 : decode cX1_learn 1 = .ok (.iload_n 3, 1) := by decide +kernel
theorem dX1_learn_2 : decode cX1_learn 2 = .ok (.putfield 21, 3) := by decide +kernel
theorem dX1_learn_5 : decode cX1_learn 5 = .ok (.aload_n 0, 1) := by decide +kernel
theorem dX1_learn_6 : decode cX1_learn 6 = .ok (.iconst 0, 1) := by decide +kernel
theorem dX1_learn_7 : decode cX1_learn 7 = .ok (.putfield 25, 3) := by decide +kernel
theorem dX1_learn_10 : decode cX1_learn 10 = .ok (.aload_n 0, 1) := by decide +kernel
theorem dX1_learn_11 : decode cX1_learn 11 = .ok (.getfield 9, 3) := by decide +kernel
theorem dX1_learn_14 : decode cX1_learn 14 = .ok (.iconst 0, 1) := by decide +kernel
theorem dX1_learn_15 : decode cX1_learn 15 = .ok (.invokestatic 28, 3) := by decide +kernel
theorem dX1_learn_18 : decode cX1_learn 18 = .ok (.aload_n 0, 1) := by decide +kernel
theorem dX1_learn_19 : decode cX1_learn 19 = .ok (.getfield 15, 3) := by decide +kernel
theorem dX1_learn_22 : decode cX1_learn 22 = .ok (.iconst 0, 1) := by decide +kernel
theorem dX1_learn_23 : decode cX1_learn 23 = .ok (.invokestatic 28, 3) := by decide +kernel
theorem dX1_learn_26 : decode cX1_learn 26 = .ok (.aload_n 0, 1) := by decide +kernel
theorem dX1_learn_27 : decode cX1_learn 27 = .ok (.getfield 9, 3) := by decide +kernel
theorem dX1_learn_30 : decode cX1_learn 30 = .ok (.iconst 0, 1) := by decide +kernel
theorem dX1_learn_31 : decode cX1_learn 31 = .ok (.iconst 1, 1) := by decide +kernel
theorem dX1_learn_32 : decode cX1_learn 32 = .ok (.iastore, 1) := by decide +kernel
theorem dX1_learn_33 : decode cX1_learn 33 = .ok (.aload_n 0, 1) := by decide +kernel
theorem dX1_learn_34 : decode cX1_learn 34 = .ok (.getfield 15, 3) := by decide +kernel
theorem dX1_learn_37 : decode cX1_learn 37 = .ok (.iconst 0, 1) := by decide +kernel
theorem dX1_learn_38 : decode cX1_learn 38 = .ok (.iconst 1, 1) := by decide +kernel
theorem dX1_learn_39 : decode cX1_learn 39 = .ok (.iastore, 1) := by decide +kernel
theorem dX1_learn_40 : decode cX1_learn 40 = .ok (.iconst 1, 1) := by decide +kernel
theorem dX1_learn_41 : decode cX1_learn 41 = .ok (.istore 4, 2) := by decide +kernel
theorem dX1_learn_43 : decode cX1_learn 43 = .ok (.iconst 1, 1) := by decide +kernel
theorem dX1_learn_44 : decode cX1_learn 44 = .ok (.istore 5, 2) := by decide +kernel
theorem dX1_learn_46 : decode cX1_learn 46 = .ok (.iconst 0, 1) := by decide +kernel
theorem dX1_learn_47 : decode cX1_learn 47 = .ok (.istore 6, 2) := by decide +kernel
theorem dX1_learn_49 : decode cX1_learn 49 = .ok (.iload 6, 2) := by decide +kernel
theorem dX1_learn_51 : decode cX1_learn 51 = .ok (.iload_n 2, 1) := by decide +kernel
theorem dX1_learn_52 : decode cX1_learn 52 = .ok (.if_icmp .ge 88, 3) := by decide +kernel
theorem dX1_learn_55 : decode cX1_learn 55 = .ok (.aload_n 0, 1) := by decide +kernel
theorem dX1_learn_56 : decode cX1_learn 56 = .ok (.aload_n 1, 1) := by decide +kernel
theorem dX1_learn_57 : decode cX1_learn 57 = .ok (.iload 6, 2) := by decide +kernel
theorem dX1_learn_59 : decode cX1_learn 59 = .ok (.invokevirtual 34, 3) := by decide +kernel
theorem dX1_learn_62 : decode cX1_learn 62 = .ok (.istore 7, 2) := by decide +kernel
theorem dX1_learn_64 : decode cX1_learn 64 = .ok (.iload 7, 2) := by decide +kernel
theorem dX1_learn_66 : decode cX1_learn 66 = .ok (.ifCond .eq 65, 3) := by decide +kernel
theorem dX1_learn_69 : decode cX1_learn 69 = .ok (.iload 7, 2) := by decide +kernel
theorem dX1_learn_71 : decode cX1_learn 71 = .ok (.aload_n 0, 1) := by decide +kernel
theorem dX1_learn_72 : decode cX1_learn 72 = .ok (.iload 4, 2) := by decide +kernel
theorem dX1_learn_74 : decode cX1_learn 74 = .ok (.invokevirtual 38, 3) := by decide +kernel
theorem dX1_learn_77 : decode cX1_learn 77 = .ok (.imul, 1) := by decide +kernel
theorem dX1_learn_78 : decode cX1_learn 78 = .ok (.aload_n 0, 1) := by decide +kernel
theorem dX1_learn_79 : decode cX1_learn 79 = .ok (.getfield 21, 3) := by decide +kernel
theorem dX1_learn_82 : decode cX1_learn 82 = .ok (.irem, 1) := by decide +kernel
theorem dX1_learn_83 : decode cX1_learn 83 = .ok (.istore 8, 2) := by decide +kernel
theorem dX1_learn_85 : decode cX1_learn 85 = .ok (.iconst 2, 1) := by decide +kernel
theorem dX1_learn_86 : decode cX1_learn 86 = .ok (.aload_n 0, 1) := by decide +kernel
theorem dX1_learn_87 : decode cX1_learn 87 = .ok (.getfield 25, 3) := by decide +kernel
theorem dX1_learn_90 : decode cX1_learn 90 = .ok (.imul, 1) := by decide +kernel
theorem dX1_learn_91 : decode cX1_learn 91 = .ok (.iload 6, 2) := by decide +kernel
theorem dX1_learn_93 : decode cX1_learn 93 = .ok (.if_icmp .gt 30, 3) := by decide +kernel
theorem dX1_learn_96 : decode cX1_learn 96 = .ok (.aload_n 0, 1) := by decide +kernel
theorem dX1_learn_97 : decode cX1_learn 97 = .ok (.iload 8, 2) := by decide +kernel
theorem dX1_learn_99 : decode cX1_learn 99 = .ok (.iload 5, 2) := by decide +kernel
theorem dX1_learn_101 : decode cX1_learn 101 = .ok (.iload 6, 2) := by decide +kernel
theorem dX1_learn_103 : decode cX1_learn 103 = .ok (.iconst 1, 1) := by decide +kernel
theorem dX1_learn_104 : decode cX1_learn 104 = .ok (.iadd, 1) := by decide +kernel
theorem dX1_learn_105 : decode cX1_learn 105 = .ok (.aload_n 0, 1) := by decide +kernel
theorem dX1_learn_106 : decode cX1_learn 106 = .ok (.getfield 25, 3) := by decide +kernel
theorem dX1_learn_109 : decode cX1_learn 109 = .ok (.isub, 1) := by decide +kernel
theorem dX1_learn_110 : decode cX1_learn 110 = .ok (.invokevirtual 42, 3) := by decide +kernel
theorem dX1_learn_113 : decode cX1_learn 113 = .ok (.iload 7, 2) := by decide +kernel
theorem dX1_learn_115 : decode cX1_learn 115 = .ok (.istore 4, 2) := by decide +kernel
theorem dX1_learn_117 : decode cX1_learn 117 = .ok (.iconst 0, 1) := by decide +kernel
theorem dX1_learn_118 : decode cX1_learn 118 = .ok (.istore 5, 2) := by decide +kernel
theorem dX1_learn_120 : decode cX1_learn 120 = .ok (.goto 11, 3) := by decide +kernel
theorem dX1_learn_123 : decode cX1_learn 123 = .ok (.aload_n 0, 1) := by decide +kernel
theorem dX1_learn_124 : decode cX1_learn 124 = .ok (.iload 8, 2) := by decide +kernel
theorem dX1_learn_126 : decode cX1_learn 126 = .ok (.iload 5, 2) := by decide +kernel
theorem dX1_learn_128 : decode cX1_learn 128 = .ok (.invokevirtual 46, 3) := by decide +kernel
theorem dX1_learn_131 : decode cX1_learn 131 = .ok (.iinc 5 1, 3) := by decide +kernel
theorem dX1_learn_134 : decode cX1_learn 134 = .ok (.iinc 6 1, 3) := by decide +kernel
theorem dX1_learn_137 : decode cX1_learn 137 = .ok (.goto (-88), 3) := by decide +kernel
theorem dX1_learn_140 : decode cX1_learn 140 = .ok (.aload_n 0, 1) := by decide +kernel
theorem dX1_learn_141 : decode cX1_learn 141 = .ok (.iload 5, 2) := by decide +kernel
theorem dX1_learn_143 : decode cX1_learn 143 = .ok (.iconst 2, 1) := by decide +kernel
theorem dX1_learn_144 : decode cX1_learn 144 = .ok (.aload_n 0, 1) := by decide +kernel
theorem dX1_learn_145 : decode cX1_learn 145 = .ok (.getfield 25, 3) := by decide +kernel
theorem dX1_learn_148 : decode cX1_learn 148 = .ok (.imul, 1) := by decide +kernel
theorem dX1_learn_149 : decode cX1_learn 149 = .ok (.iload_n 2, 1) := by decide +kernel
theorem dX1_learn_150 : decode cX1_learn 150 = .ok (.isub, 1) := by decide +kernel
theorem dX1_learn_151 : decode cX1_learn 151 = .ok (.invokevirtual 50, 3) := by decide +kernel
theorem dX1_learn_154 : decode cX1_learn 154 = .ok (.aload_n 0, 1) := by decide +kernel
theorem dX1_learn_155 : decode cX1_learn 155 = .ok (.getfield 25, 3) := by decide +kernel
theorem dX1_learn_158 : decode cX1_learn 158 = .ok (.ireturn, 1) := by decide +kernel
theorem dX1_gapAt_0 : decode cX1_gapAt 0 = .ok (.iconst 0, 1) := by decide +kernel
theorem dX1_gapAt_1 : decode cX1_gapAt 1 = .ok (.istore_n 3, 1) := by decide +kernel
theorem dX1_gapAt_2 : decode cX1_gapAt 2 = .ok (.iconst 0, 1) := by decide +kernel
theorem dX1_gapAt_3 : decode cX1_gapAt 3 = .ok (.istore 4, 2) := by decide +kernel
theorem dX1_gapAt_5 : decode cX1_gapAt 5 = .ok (.iload 4, 2) := by decide +kernel
theorem dX1_gapAt_7 : decode cX1_gapAt 7 = .ok (.aload_n 0, 1) := by decide +kernel
theorem dX1_gapAt_8 : decode cX1_gapAt 8 = .ok (.getfield 25, 3) := by decide +kernel
theorem dX1_gapAt_11 : decode cX1_gapAt 11 = .ok (.if_icmp .gt 26, 3) := by decide +kernel
theorem dX1_gapAt_14 : decode cX1_gapAt 14 = .ok (.iload_n 3, 1) := by decide +kernel
theorem dX1_gapAt_15 : decode cX1_gapAt 15 = .ok (.aload_n 0, 1) := by decide +kernel
theorem dX1_gapAt_16 : decode cX1_gapAt 16 = .ok (.getfield 9, 3) := by decide +kernel
theorem dX1_gapAt_19 : decode cX1_gapAt 19 = .ok (.iload 4, 2) := by decide +kernel
theorem dX1_gapAt_21 : decode cX1_gapAt 21 = .ok (.iaload, 1) := by decide +kernel
theorem dX1_gapAt_22 : decode cX1_gapAt 22 = .ok (.aload_n 1, 1) := by decide +kernel
theorem dX1_gapAt_23 : decode cX1_gapAt 23 = .ok (.iload_n 2, 1) := by decide +kernel
theorem dX1_gapAt_24 : decode cX1_gapAt 24 = .ok (.iload 4, 2) := by decide +kernel
theorem dX1_gapAt_26 : decode cX1_gapAt 26 = .ok (.isub, 1) := by decide +kernel
theorem dX1_gapAt_27 : decode cX1_gapAt 27 = .ok (.iaload, 1) := by decide +kernel
theorem dX1_gapAt_28 : decode cX1_gapAt 28 = .ok (.imul, 1) := by decide +kernel
theorem dX1_gapAt_29 : decode cX1_gapAt 29 = .ok (.iadd, 1) := by decide +kernel
theorem dX1_gapAt_30 : decode cX1_gapAt 30 = .ok (.istore_n 3, 1) := by decide +kernel
theorem dX1_gapAt_31 : decode cX1_gapAt 31 = .ok (.iinc 4 1, 3) := by decide +kernel
theorem dX1_gapAt_34 : decode cX1_gapAt 34 = .ok (.goto (-29), 3) := by decide +kernel
theorem dX1_gapAt_37 : decode cX1_gapAt 37 = .ok (.iload_n 3, 1) := by decide +kernel
theorem dX1_gapAt_38 : decode cX1_gapAt 38 = .ok (.aload_n 0, 1) := by decide +kernel
theorem dX1_gapAt_39 : decode cX1_gapAt 39 = .ok (.getfield 21, 3) := by decide +kernel
theorem dX1_gapAt_42 : decode cX1_gapAt 42 = .ok (.irem, 1) := by decide +kernel
theorem dX1_gapAt_43 : decode cX1_gapAt 43 = .ok (.ireturn, 1) := by decide +kernel
theorem dX1_inverse_0 : decode cX1_inverse 0 = .ok (.iconst 1, 1) := by decide +kernel
theorem dX1_inverse_1 : decode cX1_inverse 1 = .ok (.istore_n 2, 1) := by decide +kernel
theorem dX1_inverse_2 : decode cX1_inverse 2 = .ok (.iload_n 2, 1) := by decide +kernel
theorem dX1_inverse_3 : decode cX1_inverse 3 = .ok (.aload_n 0, 1) := by decide +kernel
theorem dX1_inverse_4 : decode cX1_inverse 4 = .ok (.getfield 21, 3) := by decide +kernel
theorem dX1_inverse_7 : decode cX1_inverse 7 = .ok (.if_icmp .ge 21, 3) := by decide +kernel
theorem dX1_inverse_10 : decode cX1_inverse 10 = .ok (.iload_n 2, 1) := by decide +kernel
theorem dX1_inverse_11 : decode cX1_inverse 11 = .ok (.iload_n 1, 1) := by decide +kernel
theorem dX1_inverse_12 : decode cX1_inverse 12 = .ok (.imul, 1) := by decide +kernel
theorem dX1_inverse_13 : decode cX1_inverse 13 = .ok (.aload_n 0, 1) := by decide +kernel
theorem dX1_inverse_14 : decode cX1_inverse 14 = .ok (.getfield 21, 3) := by decide +kernel
theorem dX1_inverse_17 : decode cX1_inverse 17 = .ok (.irem, 1) := by decide +kernel
theorem dX1_inverse_18 : decode cX1_inverse 18 = .ok (.iconst 1, 1) := by decide +kernel
theorem dX1_inverse_19 : decode cX1_inverse 19 = .ok (.if_icmp .eq 9, 3) := by decide +kernel
theorem dX1_inverse_22 : decode cX1_inverse 22 = .ok (.iinc 2 1, 3) := by decide +kernel
theorem dX1_inverse_25 : decode cX1_inverse 25 = .ok (.goto (-23), 3) := by decide +kernel
theorem dX1_inverse_28 : decode cX1_inverse 28 = .ok (.iload_n 2, 1) := by decide +kernel
theorem dX1_inverse_29 : decode cX1_inverse 29 = .ok (.ireturn, 1) := by decide +kernel
theorem dX1_lengthen_0 : decode cX1_lengthen 0 = .ok (.aload_n 0, 1) := by decide +kernel
theorem dX1_lengthen_1 : decode cX1_lengthen 1 = .ok (.getfield 9, 3) := by decide +kernel
theorem dX1_lengthen_4 : decode cX1_lengthen 4 = .ok (.iconst 0, 1) := by decide +kernel
theorem dX1_lengthen_5 : decode cX1_lengthen 5 = .ok (.aload_n 0, 1) := by decide +kernel
theorem dX1_lengthen_6 : decode cX1_lengthen 6 = .ok (.getfield 18, 3) := by decide +kernel
theorem dX1_lengthen_9 : decode cX1_lengthen 9 = .ok (.iconst 0, 1) := by decide +kernel
theorem dX1_lengthen_10 : decode cX1_lengthen 10 = .ok (.aload_n 0, 1) := by decide +kernel
theorem dX1_lengthen_11 : decode cX1_lengthen 11 = .ok (.getfield 9, 3) := by decide +kernel
theorem dX1_lengthen_14 : decode cX1_lengthen 14 = .ok (.arraylength, 1) := by decide +kernel
theorem dX1_lengthen_15 : decode cX1_lengthen 15 = .ok (.invokestatic 53, 3) := by decide +kernel
theorem dX1_lengthen_18 : decode cX1_lengthen 18 = .ok (.aload_n 0, 1) := by decide +kernel
theorem dX1_lengthen_19 : decode cX1_lengthen 19 = .ok (.iload_n 1, 1) := by decide +kernel
theorem dX1_lengthen_20 : decode cX1_lengthen 20 = .ok (.iload_n 2, 1) := by decide +kernel
theorem dX1_lengthen_21 : decode cX1_lengthen 21 = .ok (.invokevirtual 46, 3) := by decide +kernel
theorem dX1_lengthen_24 : decode cX1_lengthen 24 = .ok (.aload_n 0, 1) := by decide +kernel
theorem dX1_lengthen_25 : decode cX1_lengthen 25 = .ok (.getfield 18, 3) := by decide +kernel
theorem dX1_lengthen_28 : decode cX1_lengthen 28 = .ok (.iconst 0, 1) := by decide +kernel
theorem dX1_lengthen_29 : decode cX1_lengthen 29 = .ok (.aload_n 0, 1) := by decide +kernel
theorem dX1_lengthen_30 : decode cX1_lengthen 30 = .ok (.getfield 15, 3) := by decide +kernel
theorem dX1_lengthen_33 : decode cX1_lengthen 33 = .ok (.iconst 0, 1) := by decide +kernel
theorem dX1_lengthen_34 : decode cX1_lengthen 34 = .ok (.aload_n 0, 1) := by decide +kernel
theorem dX1_lengthen_35 : decode cX1_lengthen 35 = .ok (.getfield 18, 3) := by decide +kernel
theorem dX1_lengthen_38 : decode cX1_lengthen 38 = .ok (.arraylength, 1) := by decide +kernel
theorem dX1_lengthen_39 : decode cX1_lengthen 39 = .ok (.invokestatic 53, 3) := by decide +kernel
theorem dX1_lengthen_42 : decode cX1_lengthen 42 = .ok (.aload_n 0, 1) := by decide +kernel
theorem dX1_lengthen_43 : decode cX1_lengthen 43 = .ok (.iload_n 3, 1) := by decide +kernel
theorem dX1_lengthen_44 : decode cX1_lengthen 44 = .ok (.putfield 25, 3) := by decide +kernel
theorem dX1_lengthen_47 : decode cX1_lengthen 47 = .ok (.return_, 1) := by decide +kernel
theorem dX1_subtractEarlier_0 : decode cX1_subtractEarlier 0 = .ok (.iconst 0, 1) := by decide +kernel
theorem dX1_subtractEarlier_1 : decode cX1_subtractEarlier 1 = .ok (.istore_n 3, 1) := by decide +kernel
theorem dX1_subtractEarlier_2 : decode cX1_subtractEarlier 2 = .ok (.iload_n 3, 1) := by decide +kernel
theorem dX1_subtractEarlier_3 : decode cX1_subtractEarlier 3 = .ok (.iload_n 2, 1) := by decide +kernel
theorem dX1_subtractEarlier_4 : decode cX1_subtractEarlier 4 = .ok (.iadd, 1) := by decide +kernel
theorem dX1_subtractEarlier_5 : decode cX1_subtractEarlier 5 = .ok (.aload_n 0, 1) := by decide +kernel
theorem dX1_subtractEarlier_6 : decode cX1_subtractEarlier 6 = .ok (.getfield 9, 3) := by decide +kernel
theorem dX1_subtractEarlier_9 : decode cX1_subtractEarlier 9 = .ok (.arraylength, 1) := by decide +kernel
theorem dX1_subtractEarlier_10 : decode cX1_subtractEarlier 10 = .ok (.if_icmp .ge 44, 3) := by decide +kernel
theorem dX1_subtractEarlier_13 : decode cX1_subtractEarlier 13 = .ok (.aload_n 0, 1) := by decide +kernel
theorem dX1_subtractEarlier_14 : decode cX1_subtractEarlier 14 = .ok (.getfield 9, 3) := by decide +kernel
theorem dX1_subtractEarlier_17 : decode cX1_subtractEarlier 17 = .ok (.iload_n 3, 1) := by decide +kernel
theorem dX1_subtractEarlier_18 : decode cX1_subtractEarlier 18 = .ok (.iload_n 2, 1) := by decide +kernel
theorem dX1_subtractEarlier_19 : decode cX1_subtractEarlier 19 = .ok (.iadd, 1) := by decide +kernel
theorem dX1_subtractEarlier_20 : decode cX1_subtractEarlier 20 = .ok (.aload_n 0, 1) := by decide +kernel
theorem dX1_subtractEarlier_21 : decode cX1_subtractEarlier 21 = .ok (.getfield 9, 3) := by decide +kernel
theorem dX1_subtractEarlier_24 : decode cX1_subtractEarlier 24 = .ok (.iload_n 3, 1) := by decide +kernel
theorem dX1_subtractEarlier_25 : decode cX1_subtractEarlier 25 = .ok (.iload_n 2, 1) := by decide +kernel
theorem dX1_subtractEarlier_26 : decode cX1_subtractEarlier 26 = .ok (.iadd, 1) := by decide +kernel
theorem dX1_subtractEarlier_27 : decode cX1_subtractEarlier 27 = .ok (.iaload, 1) := by decide +kernel
theorem dX1_subtractEarlier_28 : decode cX1_subtractEarlier 28 = .ok (.aload_n 0, 1) := by decide +kernel
theorem dX1_subtractEarlier_29 : decode cX1_subtractEarlier 29 = .ok (.getfield 21, 3) := by decide +kernel
theorem dX1_subtractEarlier_32 : decode cX1_subtractEarlier 32 = .ok (.iload_n 1, 1) := by decide +kernel
theorem dX1_subtractEarlier_33 : decode cX1_subtractEarlier 33 = .ok (.isub, 1) := by decide +kernel
theorem dX1_subtractEarlier_34 : decode cX1_subtractEarlier 34 = .ok (.aload_n 0, 1) := by decide +kernel
theorem dX1_subtractEarlier_35 : decode cX1_subtractEarlier 35 = .ok (.getfield 15, 3) := by decide +kernel
theorem dX1_subtractEarlier_38 : decode cX1_subtractEarlier 38 = .ok (.iload_n 3, 1) := by decide +kernel
theorem dX1_subtractEarlier_39 : decode cX1_subtractEarlier 39 = .ok (.iaload, 1) := by decide +kernel
theorem dX1_subtractEarlier_40 : decode cX1_subtractEarlier 40 = .ok (.imul, 1) := by decide +kernel
theorem dX1_subtractEarlier_41 : decode cX1_subtractEarlier 41 = .ok (.iadd, 1) := by decide +kernel
theorem dX1_subtractEarlier_42 : decode cX1_subtractEarlier 42 = .ok (.aload_n 0, 1) := by decide +kernel
theorem dX1_subtractEarlier_43 : decode cX1_subtractEarlier 43 = .ok (.getfield 21, 3) := by decide +kernel
theorem dX1_subtractEarlier_46 : decode cX1_subtractEarlier 46 = .ok (.irem, 1) := by decide +kernel
theorem dX1_subtractEarlier_47 : decode cX1_subtractEarlier 47 = .ok (.iastore, 1) := by decide +kernel
theorem dX1_subtractEarlier_48 : decode cX1_subtractEarlier 48 = .ok (.iinc 3 1, 3) := by decide +kernel
theorem dX1_subtractEarlier_51 : decode cX1_subtractEarlier 51 = .ok (.goto (-49), 3) := by decide +kernel
theorem dX1_subtractEarlier_54 : decode cX1_subtractEarlier 54 = .ok (.return_, 1) := by decide +kernel
theorem dX1_lowerNumbers_0 : decode cX1_lowerNumbers 0 = .ok (.iload_n 1, 1) := by decide +kernel
theorem dX1_lowerNumbers_1 : decode cX1_lowerNumbers 1 = .ok (.istore_n 3, 1) := by decide +kernel
theorem dX1_lowerNumbers_2 : decode cX1_lowerNumbers 2 = .ok (.iload_n 3, 1) := by decide +kernel
theorem dX1_lowerNumbers_3 : decode cX1_lowerNumbers 3 = .ok (.iload_n 1, 1) := by decide +kernel
theorem dX1_lowerNumbers_4 : decode cX1_lowerNumbers 4 = .ok (.iload_n 2, 1) := by decide +kernel
theorem dX1_lowerNumbers_5 : decode cX1_lowerNumbers 5 = .ok (.iadd, 1) := by decide +kernel
theorem dX1_lowerNumbers_6 : decode cX1_lowerNumbers 6 = .ok (.if_icmp .ge 38, 3) := by decide +kernel
theorem dX1_lowerNumbers_9 : decode cX1_lowerNumbers 9 = .ok (.iload_n 3, 1) := by decide +kernel
theorem dX1_lowerNumbers_10 : decode cX1_lowerNumbers 10 = .ok (.aload_n 0, 1) := by decide +kernel
theorem dX1_lowerNumbers_11 : decode cX1_lowerNumbers 11 = .ok (.getfield 9, 3) := by decide +kernel
theorem dX1_lowerNumbers_14 : decode cX1_lowerNumbers 14 = .ok (.arraylength, 1) := by decide +kernel
theorem dX1_lowerNumbers_15 : decode cX1_lowerNumbers 15 = .ok (.if_icmp .ge 29, 3) := by decide +kernel
theorem dX1_lowerNumbers_18 : decode cX1_lowerNumbers 18 = .ok (.aload_n 0, 1) := by decide +kernel
theorem dX1_lowerNumbers_19 : decode cX1_lowerNumbers 19 = .ok (.getfield 9, 3) := by decide +kernel
theorem dX1_lowerNumbers_22 : decode cX1_lowerNumbers 22 = .ok (.iload_n 3, 1) := by decide +kernel
theorem dX1_lowerNumbers_23 : decode cX1_lowerNumbers 23 = .ok (.iaload, 1) := by decide +kernel
theorem dX1_lowerNumbers_24 : decode cX1_lowerNumbers 24 = .ok (.ifCond .eq 14, 3) := by decide +kernel
theorem dX1_lowerNumbers_27 : decode cX1_lowerNumbers 27 = .ok (.aload_n 0, 1) := by decide +kernel
theorem dX1_lowerNumbers_28 : decode cX1_lowerNumbers 28 = .ok (.aload_n 0, 1) := by decide +kernel
theorem dX1_lowerNumbers_29 : decode cX1_lowerNumbers 29 = .ok (.getfield 9, 3) := by decide +kernel
theorem dX1_lowerNumbers_32 : decode cX1_lowerNumbers 32 = .ok (.iload_n 3, 1) := by decide +kernel
theorem dX1_lowerNumbers_33 : decode cX1_lowerNumbers 33 = .ok (.iaload, 1) := by decide +kernel
theorem dX1_lowerNumbers_34 : decode cX1_lowerNumbers 34 = .ok (.iload_n 3, 1) := by decide +kernel
theorem dX1_lowerNumbers_35 : decode cX1_lowerNumbers 35 = .ok (.invokevirtual 46, 3) := by decide +kernel
theorem dX1_lowerNumbers_38 : decode cX1_lowerNumbers 38 = .ok (.iinc 3 1, 3) := by decide +kernel
theorem dX1_lowerNumbers_41 : decode cX1_lowerNumbers 41 = .ok (.goto (-39), 3) := by decide +kernel
theorem dX1_lowerNumbers_44 : decode cX1_lowerNumbers 44 = .ok (.return_, 1) := by decide +kernel
theorem dX2_init_0 : decode cX2_init 0 = .ok (.aload_n 0, 1) := by decide +kernel
theorem dX2_init_1 : decode cX2_init 1 = .ok (.invokespecial 3, 3) := by decide +kernel
theorem dX2_init_4 : decode cX2_init 4 = .ok (.aload_n 0, 1) := by decide +kernel
theorem dX2_init_5 : decode cX2_init 5 = .ok (.bipush 14, 2) := by decide +kernel
theorem dX2_init_7 : decode cX2_init 7 = .ok (.newarray .int, 2) := by decide +kernel
theorem dX2_init_9 : decode cX2_init 9 = .ok (.putfield 9, 3) := by decide +kernel
theorem dX2_init_12 : decode cX2_init 12 = .ok (.aload_n 0, 1) := by decide +kernel
theorem dX2_init_13 : decode cX2_init 13 = .ok (.sipush 400, 3) := by decide +kernel
theorem dX2_init_16 : decode cX2_init 16 = .ok (.newarray .int, 2) := by decide +kernel
theorem dX2_init_18 : decode cX2_init 18 = .ok (.putfield 15, 3) := by decide +kernel
theorem dX2_init_21 : decode cX2_init 21 = .ok (.aload_n 0, 1) := by decide +kernel
theorem dX2_init_22 : decode cX2_init 22 = .ok (.sipush 400, 3) := by decide +kernel
theorem dX2_init_25 : decode cX2_init 25 = .ok (.newarray .int, 2) := by decide +kernel
theorem dX2_init_27 : decode cX2_init 27 = .ok (.putfield 18, 3) := by decide +kernel
theorem dX2_init_30 : decode cX2_init 30 = .ok (.aload_n 0, 1) := by decide +kernel
theorem dX2_init_31 : decode cX2_init 31 = .ok (.sipush 20000, 3) := by decide +kernel
theorem dX2_init_34 : decode cX2_init 34 = .ok (.newarray .int, 2) := by decide +kernel
theorem dX2_init_36 : decode cX2_init 36 = .ok (.putfield 21, 3) := by decide +kernel
theorem dX2_init_39 : decode cX2_init 39 = .ok (.aload_n 0, 1) := by decide +kernel
theorem dX2_init_40 : decode cX2_init 40 = .ok (.sipush 20000, 3) := by decide +kernel
theorem dX2_init_43 : decode cX2_init 43 = .ok (.newarray .int, 2) := by decide +kernel
theorem dX2_init_45 : decode cX2_init 45 = .ok (.putfield 24, 3) := by decide +kernel
theorem dX2_init_48 : decode cX2_init 48 = .ok (.aload_n 0, 1) := by decide +kernel
theorem dX2_init_49 : decode cX2_init 49 = .ok (.sipush 20000, 3) := by decide +kernel
theorem dX2_init_52 : decode cX2_init 52 = .ok (.newarray .int, 2) := by decide +kernel
theorem dX2_init_54 : decode cX2_init 54 = .ok (.putfield 27, 3) := by decide +kernel
theorem dX2_init_57 : decode cX2_init 57 = .ok (.aload_n 0, 1) := by decide +kernel
theorem dX2_init_58 : decode cX2_init 58 = .ok (.sipush 401, 3) := by decide +kernel
theorem dX2_init_61 : decode cX2_init 61 = .ok (.newarray .int, 2) := by decide +kernel
theorem dX2_init_63 : decode cX2_init 63 = .ok (.putfield 30, 3) := by decide +kernel
theorem dX2_init_66 : decode cX2_init 66 = .ok (.aload_n 0, 1) := by decide +kernel
theorem dX2_init_67 : decode cX2_init 67 = .ok (.aload_n 1, 1) := by decide +kernel
theorem dX2_init_68 : decode cX2_init 68 = .ok (.putfield 33, 3) := by decide +kernel
theorem dX2_init_71 : decode cX2_init 71 = .ok (.aload_n 0, 1) := by decide +kernel
theorem dX2_init_72 : decode cX2_init 72 = .ok (.invokevirtual 37, 3) := by decide +kernel
theorem dX2_init_75 : decode cX2_init 75 = .ok (.return_, 1) := by decide +kernel
theorem dX2_becomeTurning_0 : decode cX2_becomeTurning 0 = .ok (.aload_n 0, 1) := by decide +kernel
theorem dX2_becomeTurning_1 : decode cX2_becomeTurning 1 = .ok (.getfield 9, 3) := by decide +kernel
theorem dX2_becomeTurning_4 : decode cX2_becomeTurning 4 = .ok (.iconst 0, 1) := by decide +kernel
theorem dX2_becomeTurning_5 : decode cX2_becomeTurning 5 = .ok (.invokestatic 40, 3) := by decide +kernel
theorem dX2_becomeTurning_8 : decode cX2_becomeTurning 8 = .ok (.aload_n 0, 1) := by decide +kernel
theorem dX2_becomeTurning_9 : decode cX2_becomeTurning 9 = .ok (.getfield 9, 3) := by decide +kernel
theorem dX2_becomeTurning_12 : decode cX2_becomeTurning 12 = .ok (.iconst 0, 1) := by decide +kernel
theorem dX2_becomeTurning_13 : decode cX2_becomeTurning 13 = .ok (.iconst 1, 1) := by decide +kernel
theorem dX2_becomeTurning_14 : decode cX2_becomeTurning 14 = .ok (.iastore, 1) := by decide +kernel
theorem dX2_becomeTurning_15 : decode cX2_becomeTurning 15 = .ok (.aload_n 0, 1) := by decide +kernel
theorem dX2_becomeTurning_16 : decode cX2_becomeTurning 16 = .ok (.iconst 0, 1) := by decide +kernel
theorem dX2_becomeTurning_17 : decode cX2_becomeTurning 17 = .ok (.putfield 46, 3) := by decide +kernel
theorem dX2_becomeTurning_20 : decode cX2_becomeTurning 20 = .ok (.aload_n 0, 1) := by decide +kernel
theorem dX2_becomeTurning_21 : decode cX2_becomeTurning 21 = .ok (.invokevirtual 50, 3) := by decide +kernel
theorem dX2_becomeTurning_24 : decode cX2_becomeTurning 24 = .ok (.return_, 1) := by decide +kernel
theorem dX2_changeFactor_0 : decode cX2_changeFactor 0 = .ok (.aload_n 0, 1) := by decide +kernel
theorem dX2_changeFactor_1 : decode cX2_changeFactor 1 = .ok (.getfield 9, 3) := by decide +kernel
theorem dX2_changeFactor_4 : decode cX2_changeFactor 4 = .ok (.iload_n 1, 1) := by decide +kernel
theorem dX2_changeFactor_5 : decode cX2_changeFactor 5 = .ok (.iaload, 1) := by decide +kernel
theorem dX2_changeFactor_6 : decode cX2_changeFactor 6 = .ok (.istore_n 3, 1) := by decide +kernel
theorem dX2_changeFactor_7 : decode cX2_changeFactor 7 = .ok (.aload_n 0, 1) := by decide +kernel
theorem dX2_changeFactor_8 : decode cX2_changeFactor 8 = .ok (.getfield 9, 3) := by decide +kernel
theorem dX2_changeFactor_11 : decode cX2_changeFactor 11 = .ok (.iload_n 1, 1) := by decide +kernel
theorem dX2_changeFactor_12 : decode cX2_changeFactor 12 = .ok (.iload_n 2, 1) := by decide +kernel
theorem dX2_changeFactor_13 : decode cX2_changeFactor 13 = .ok (.iastore, 1) := by decide +kernel
theorem dX2_changeFactor_14 : decode cX2_changeFactor 14 = .ok (.aload_n 0, 1) := by decide +kernel
theorem dX2_changeFactor_15 : decode cX2_changeFactor 15 = .ok (.invokevirtual 50, 3) := by decide +kernel
theorem dX2_changeFactor_18 : decode cX2_changeFactor 18 = .ok (.iload_n 3, 1) := by decide +kernel
theorem dX2_changeFactor_19 : decode cX2_changeFactor 19 = .ok (.ireturn, 1) := by decide +kernel
theorem dX2_changeSum_0 : decode cX2_changeSum 0 = .ok (.aload_n 0, 1) := by decide +kernel
theorem dX2_changeSum_1 : decode cX2_changeSum 1 = .ok (.getfield 46, 3) := by decide +kernel
theorem dX2_changeSum_4 : decode cX2_changeSum 4 = .ok (.istore_n 2, 1) := by decide +kernel
theorem dX2_changeSum_5 : decode cX2_changeSum 5 = .ok (.aload_n 0, 1) := by decide +kernel
theorem dX2_changeSum_6 : decode cX2_changeSum 6 = .ok (.iload_n 1, 1) := by decide +kernel
theorem dX2_changeSum_7 : decode cX2_changeSum 7 = .ok (.putfield 46, 3) := by decide +kernel
theorem dX2_changeSum_10 : decode cX2_changeSum 10 = .ok (.aload_n 0, 1) := by decide +kernel
theorem dX2_changeSum_11 : decode cX2_changeSum 11 = .ok (.invokevirtual 50, 3) := by decide +kernel
theorem dX2_changeSum_14 : decode cX2_changeSum 14 = .ok (.iload_n 2, 1) := by decide +kernel
theorem dX2_changeSum_15 : decode cX2_changeSum 15 = .ok (.ireturn, 1) := by decide +kernel
theorem dX2_forgetExchanges_0 : decode cX2_forgetExchanges 0 = .ok (.aload_n 0, 1) := by decide +kernel
theorem dX2_forgetExchanges_1 : decode cX2_forgetExchanges 1 = .ok (.iconst 0, 1) := by decide +kernel
theorem dX2_forgetExchanges_2 : decode cX2_forgetExchanges 2 = .ok (.putfield 53, 3) := by decide +kernel
theorem dX2_forgetExchanges_5 : decode cX2_forgetExchanges 5 = .ok (.aload_n 0, 1) := by decide +kernel
theorem dX2_forgetExchanges_6 : decode cX2_forgetExchanges 6 = .ok (.iconst 0, 1) := by decide +kernel
theorem dX2_forgetExchanges_7 : decode cX2_forgetExchanges 7 = .ok (.putfield 56, 3) := by decide +kernel
theorem dX2_forgetExchanges_10 : decode cX2_forgetExchanges 10 = .ok (.aload_n 0, 1) := by decide +kernel
theorem dX2_forgetExchanges_11 : decode cX2_forgetExchanges 11 = .ok (.iconst 0, 1) := by decide +kernel
theorem dX2_forgetExchanges_12 : decode cX2_forgetExchanges 12 = .ok (.putfield 60, 3) := by decide +kernel
theorem dX2_forgetExchanges_15 : decode cX2_forgetExchanges 15 = .ok (.aload_n 0, 1) := by decide +kernel
theorem dX2_forgetExchanges_16 : decode cX2_forgetExchanges 16 = .ok (.iconst 0, 1) := by decide +kernel
theorem dX2_forgetExchanges_17 : decode cX2_forgetExchanges 17 = .ok (.putfield 63, 3) := by decide +kernel
theorem dX2_forgetExchanges_20 : decode cX2_forgetExchanges 20 = .ok (.return_, 1) := by decide +kernel
theorem dX2_isRight_0 : decode cX2_isRight 0 = .ok (.iconst 2, 1) := by decide +kernel
theorem dX2_isRight_1 : decode cX2_isRight 1 = .ok (.istore_n 1, 1) := by decide +kernel
theorem dX2_isRight_2 : decode cX2_isRight 2 = .ok (.iload_n 1, 1) := by decide +kernel
theorem dX2_isRight_3 : decode cX2_isRight 3 = .ok (.aload_n 0, 1) := by decide +kernel
theorem dX2_isRight_4 : decode cX2_isRight 4 = .ok (.getfield 33, 3) := by decide +kernel
theorem dX2_isRight_7 : decode cX2_isRight 7 = .ok (.getfield 66, 3) := by decide +kernel
theorem dX2_isRight_10 : decode cX2_isRight 10 = .ok (.if_icmp .gt 34, 3) := by decide +kernel
theorem dX2_isRight_13 : decode cX2_isRight 13 = .ok (.aload_n 0, 1) := by decide +kernel
theorem dX2_isRight_14 : decode cX2_isRight 14 = .ok (.getfield 33, 3) := by decide +kernel
theorem dX2_isRight_17 : decode cX2_isRight 17 = .ok (.getfield 66, 3) := by decide +kernel
theorem dX2_isRight_20 : decode cX2_isRight 20 = .ok (.iload_n 1, 1) := by decide +kernel
theorem dX2_isRight_21 : decode cX2_isRight 21 = .ok (.irem, 1) := by decide +kernel
theorem dX2_isRight_22 : decode cX2_isRight 22 = .ok (.ifCond .ne 16, 3) := by decide +kernel
theorem dX2_isRight_25 : decode cX2_isRight 25 = .ok (.aload_n 0, 1) := by decide +kernel
theorem dX2_isRight_26 : decode cX2_isRight 26 = .ok (.getfield 9, 3) := by decide +kernel
theorem dX2_isRight_29 : decode cX2_isRight 29 = .ok (.iconst 0, 1) := by decide +kernel
theorem dX2_isRight_30 : decode cX2_isRight 30 = .ok (.iaload, 1) := by decide +kernel
theorem dX2_isRight_31 : decode cX2_isRight 31 = .ok (.iload_n 1, 1) := by decide +kernel
theorem dX2_isRight_32 : decode cX2_isRight 32 = .ok (.irem, 1) := by decide +kernel
theorem dX2_isRight_33 : decode cX2_isRight 33 = .ok (.ifCond .ne 5, 3) := by decide +kernel
theorem dX2_isRight_36 : decode cX2_isRight 36 = .ok (.iconst 0, 1) := by decide +kernel
theorem dX2_isRight_37 : decode cX2_isRight 37 = .ok (.ireturn, 1) := by decide +kernel
theorem dX2_isRight_38 : decode cX2_isRight 38 = .ok (.iinc 1 1, 3) := by decide +kernel
theorem dX2_isRight_41 : decode cX2_isRight 41 = .ok (.goto (-39), 3) := by decide +kernel
theorem dX2_isRight_44 : decode cX2_isRight 44 = .ok (.iconst 1, 1) := by decide +kernel
theorem dX2_isRight_45 : decode cX2_isRight 45 = .ok (.ireturn, 1) := by decide +kernel
theorem dX2_isFull_0 : decode cX2_isFull 0 = .ok (.aload_n 0, 1) := by decide +kernel
theorem dX2_isFull_1 : decode cX2_isFull 1 = .ok (.getfield 53, 3) := by decide +kernel
theorem dX2_isFull_4 : decode cX2_isFull 4 = .ok (.sipush 400, 3) := by decide +kernel
theorem dX2_isFull_7 : decode cX2_isFull 7 = .ok (.if_icmp .lt 7, 3) := by decide +kernel
theorem dX2_isFull_10 : decode cX2_isFull 10 = .ok (.iconst 1, 1) := by decide +kernel
theorem dX2_isFull_11 : decode cX2_isFull 11 = .ok (.goto 4, 3) := by decide +kernel
theorem dX2_isFull_14 : decode cX2_isFull 14 = .ok (.iconst 0, 1) := by decide +kernel
theorem dX2_isFull_15 : decode cX2_isFull 15 = .ok (.ireturn, 1) := by decide +kernel
theorem dX2_leadOf_0 : decode cX2_leadOf 0 = .ok (.aload_n 0, 1) := by decide +kernel
theorem dX2_leadOf_1 : decode cX2_leadOf 1 = .ok (.invokevirtual 71, 3) := by decide +kernel
theorem dX2_leadOf_4 : decode cX2_leadOf 4 = .ok (.iload_n 1, 1) := by decide +kernel
theorem dX2_leadOf_5 : decode cX2_leadOf 5 = .ok (.iaload, 1) := by decide +kernel
theorem dX2_leadOf_6 : decode cX2_leadOf 6 = .ok (.ireturn, 1) := by decide +kernel
theorem dX2_leads_0 : decode cX2_leads 0 = .ok (.aload_n 0, 1) := by decide +kernel
theorem dX2_leads_1 : decode cX2_leads 1 = .ok (.getfield 56, 3) := by decide +kernel
theorem dX2_leads_4 : decode cX2_leads 4 = .ok (.ifCond .ne 57, 3) := by decide +kernel
theorem dX2_leads_7 : decode cX2_leads 7 = .ok (.aload_n 0, 1) := by decide +kernel
theorem dX2_leads_8 : decode cX2_leads 8 = .ok (.invokevirtual 75, 3) := by decide +kernel
theorem dX2_leads_11 : decode cX2_leads 11 = .ok (.iconst 0, 1) := by decide +kernel
theorem dX2_leads_12 : decode cX2_leads 12 = .ok (.istore_n 1, 1) := by decide +kernel
theorem dX2_leads_13 : decode cX2_leads 13 = .ok (.iload_n 1, 1) := by decide +kernel
theorem dX2_leads_14 : decode cX2_leads 14 = .ok (.aload_n 0, 1) := by decide +kernel
theorem dX2_leads_15 : decode cX2_leads 15 = .ok (.getfield 33, 3) := by decide +kernel
theorem dX2_leads_18 : decode cX2_leads 18 = .ok (.getfield 78, 3) := by decide +kernel
theorem dX2_leads_21 : decode cX2_leads 21 = .ok (.if_icmp .ge 35, 3) := by decide +kernel
theorem dX2_leads_24 : decode cX2_leads 24 = .ok (.aload_n 0, 1) := by decide +kernel
theorem dX2_leads_25 : decode cX2_leads 25 = .ok (.getfield 21, 3) := by decide +kernel
theorem dX2_leads_28 : decode cX2_leads 28 = .ok (.iload_n 1, 1) := by decide +kernel
theorem dX2_leads_29 : decode cX2_leads 29 = .ok (.dup2, 1) := by decide +kernel
theorem dX2_leads_30 : decode cX2_leads 30 = .ok (.iaload, 1) := by decide +kernel
theorem dX2_leads_31 : decode cX2_leads 31 = .ok (.iload_n 1, 1) := by decide +kernel
theorem dX2_leads_32 : decode cX2_leads 32 = .ok (.aload_n 0, 1) := by decide +kernel
theorem dX2_leads_33 : decode cX2_leads 33 = .ok (.getfield 33, 3) := by decide +kernel
theorem dX2_leads_36 : decode cX2_leads 36 = .ok (.getfield 81, 3) := by decide +kernel
theorem dX2_leads_39 : decode cX2_leads 39 = .ok (.irem, 1) := by decide +kernel
theorem dX2_leads_40 : decode cX2_leads 40 = .ok (.aload_n 0, 1) := by decide +kernel
theorem dX2_leads_41 : decode cX2_leads 41 = .ok (.getfield 33, 3) := by decide +kernel
theorem dX2_leads_44 : decode cX2_leads 44 = .ok (.getfield 66, 3) := by decide +kernel
theorem dX2_leads_47 : decode cX2_leads 47 = .ok (.imul, 1) := by decide +kernel
theorem dX2_leads_48 : decode cX2_leads 48 = .ok (.iadd, 1) := by decide +kernel
theorem dX2_leads_49 : decode cX2_leads 49 = .ok (.iastore, 1) := by decide +kernel
theorem dX2_leads_50 : decode cX2_leads 50 = .ok (.iinc 1 1, 3) := by decide +kernel
theorem dX2_leads_53 : decode cX2_leads 53 = .ok (.goto (-40), 3) := by decide +kernel
theorem dX2_leads_56 : decode cX2_leads 56 = .ok (.aload_n 0, 1) := by decide +kernel
theorem dX2_leads_57 : decode cX2_leads 57 = .ok (.iconst 1, 1) := by decide +kernel
theorem dX2_leads_58 : decode cX2_leads 58 = .ok (.putfield 56, 3) := by decide +kernel
theorem dX2_leads_61 : decode cX2_leads 61 = .ok (.aload_n 0, 1) := by decide +kernel
theorem dX2_leads_62 : decode cX2_leads 62 = .ok (.getfield 21, 3) := by decide +kernel
theorem dX2_leads_65 : decode cX2_leads 65 = .ok (.areturn, 1) := by decide +kernel
theorem dX2_fillComing_0 : decode cX2_fillComing 0 = .ok (.aload_n 0, 1) := by decide +kernel
theorem dX2_fillComing_1 : decode cX2_fillComing 1 = .ok (.getfield 21, 3) := by decide +kernel
theorem dX2_fillComing_4 : decode cX2_fillComing 4 = .ok (.iconst 0, 1) := by decide +kernel
theorem dX2_fillComing_5 : decode cX2_fillComing 5 = .ok (.aload_n 0, 1) := by decide +kernel
theorem dX2_fillComing_6 : decode cX2_fillComing 6 = .ok (.getfield 46, 3) := by decide +kernel
theorem dX2_fillComing_9 : decode cX2_fillComing 9 = .ok (.iastore, 1) := by decide +kernel
theorem dX2_fillComing_10 : decode cX2_fillComing 10 = .ok (.aload_n 0, 1) := by decide +kernel
theorem dX2_fillComing_11 : decode cX2_fillComing 11 = .ok (.getfield 33, 3) := by decide +kernel
theorem dX2_fillComing_14 : decode cX2_fillComing 14 = .ok (.getfield 84, 3) := by decide +kernel
theorem dX2_fillComing_17 : decode cX2_fillComing 17 = .ok (.iconst 1, 1) := by decide +kernel
theorem dX2_fillComing_18 : decode cX2_fillComing 18 = .ok (.isub, 1) := by decide +kernel
theorem dX2_fillComing_19 : decode cX2_fillComing 19 = .ok (.istore_n 1, 1) := by decide +kernel
theorem dX2_fillComing_20 : decode cX2_fillComing 20 = .ok (.iload_n 1, 1) := by decide +kernel
theorem dX2_fillComing_21 : decode cX2_fillComing 21 = .ok (.ifCond .lt 102, 3) := by decide +kernel
theorem dX2_fillComing_24 : decode cX2_fillComing 24 = .ok (.aload_n 0, 1) := by decide +kernel
theorem dX2_fillComing_25 : decode cX2_fillComing 25 = .ok (.getfield 33, 3) := by decide +kernel
theorem dX2_fillComing_28 : decode cX2_fillComing 28 = .ok (.getfield 87, 3) := by decide +kernel
theorem dX2_fillComing_31 : decode cX2_fillComing 31 = .ok (.aload_n 0, 1) := by decide +kernel
theorem dX2_fillComing_32 : decode cX2_fillComing 32 = .ok (.getfield 33, 3) := by decide +kernel
theorem dX2_fillComing_35 : decode cX2_fillComing 35 = .ok (.getfield 84, 3) := by decide +kernel
theorem dX2_fillComing_38 : decode cX2_fillComing 38 = .ok (.iconst 1, 1) := by decide +kernel
theorem dX2_fillComing_39 : decode cX2_fillComing 39 = .ok (.isub, 1) := by decide +kernel
theorem dX2_fillComing_40 : decode cX2_fillComing 40 = .ok (.iload_n 1, 1) := by decide +kernel
theorem dX2_fillComing_41 : decode cX2_fillComing 41 = .ok (.isub, 1) := by decide +kernel
theorem dX2_fillComing_42 : decode cX2_fillComing 42 = .ok (.iaload, 1) := by decide +kernel
theorem dX2_fillComing_43 : decode cX2_fillComing 43 = .ok (.istore_n 2, 1) := by decide +kernel
theorem dX2_fillComing_44 : decode cX2_fillComing 44 = .ok (.iconst 1, 1) := by decide +kernel
theorem dX2_fillComing_45 : decode cX2_fillComing 45 = .ok (.istore_n 3, 1) := by decide +kernel
theorem dX2_fillComing_46 : decode cX2_fillComing 46 = .ok (.iload_n 3, 1) := by decide +kernel
theorem dX2_fillComing_47 : decode cX2_fillComing 47 = .ok (.aload_n 0, 1) := by decide +kernel
theorem dX2_fillComing_48 : decode cX2_fillComing 48 = .ok (.getfield 33, 3) := by decide +kernel
theorem dX2_fillComing_51 : decode cX2_fillComing 51 = .ok (.getfield 66, 3) := by decide +kernel
theorem dX2_fillComing_54 : decode cX2_fillComing 54 = .ok (.if_icmp .ge 63, 3) := by decide +kernel
theorem dX2_fillComing_57 : decode cX2_fillComing 57 = .ok (.aload_n 0, 1) := by decide +kernel
theorem dX2_fillComing_58 : decode cX2_fillComing 58 = .ok (.getfield 9, 3) := by decide +kernel
theorem dX2_fillComing_61 : decode cX2_fillComing 61 = .ok (.iload_n 1, 1) := by decide +kernel
theorem dX2_fillComing_62 : decode cX2_fillComing 62 = .ok (.iaload, 1) := by decide +kernel
theorem dX2_fillComing_63 : decode cX2_fillComing 63 = .ok (.iload_n 3, 1) := by decide +kernel
theorem dX2_fillComing_64 : decode cX2_fillComing 64 = .ok (.imul, 1) := by decide +kernel
theorem dX2_fillComing_65 : decode cX2_fillComing 65 = .ok (.istore 4, 2) := by decide +kernel
theorem dX2_fillComing_67 : decode cX2_fillComing 67 = .ok (.iconst 0, 1) := by decide +kernel
theorem dX2_fillComing_68 : decode cX2_fillComing 68 = .ok (.istore 5, 2) := by decide +kernel
theorem dX2_fillComing_70 : decode cX2_fillComing 70 = .ok (.iload 5, 2) := by decide +kernel
theorem dX2_fillComing_72 : decode cX2_fillComing 72 = .ok (.iload_n 2, 1) := by decide +kernel
theorem dX2_fillComing_73 : decode cX2_fillComing 73 = .ok (.if_icmp .ge 38, 3) := by decide +kernel
theorem dX2_fillComing_76 : decode cX2_fillComing 76 = .ok (.aload_n 0, 1) := by decide +kernel
theorem dX2_fillComing_77 : decode cX2_fillComing 77 = .ok (.getfield 21, 3) := by decide +kernel
theorem dX2_fillComing_80 : decode cX2_fillComing 80 = .ok (.iload_n 3, 1) := by decide +kernel
theorem dX2_fillComing_81 : decode cX2_fillComing 81 = .ok (.iload_n 2, 1) := by decide +kernel
theorem dX2_fillComing_82 : decode cX2_fillComing 82 = .ok (.imul, 1) := by decide +kernel
theorem dX2_fillComing_83 : decode cX2_fillComing 83 = .ok (.iload 5, 2) := by decide +kernel
theorem dX2_fillComing_85 : decode cX2_fillComing 85 = .ok (.iadd, 1) := by decide +kernel
theorem dX2_fillComing_86 : decode cX2_fillComing 86 = .ok (.aload_n 0, 1) := by decide +kernel
theorem dX2_fillComing_87 : decode cX2_fillComing 87 = .ok (.getfield 21, 3) := by decide +kernel
theorem dX2_fillComing_90 : decode cX2_fillComing 90 = .ok (.iload 5, 2) := by decide +kernel
theorem dX2_fillComing_92 : decode cX2_fillComing 92 = .ok (.iaload, 1) := by decide +kernel
theorem dX2_fillComing_93 : decode cX2_fillComing 93 = .ok (.iload 4, 2) := by decide +kernel
theorem dX2_fillComing_95 : decode cX2_fillComing 95 = .ok (.iadd, 1) := by decide +kernel
theorem dX2_fillComing_96 : decode cX2_fillComing 96 = .ok (.aload_n 0, 1) := by decide +kernel
theorem dX2_fillComing_97 : decode cX2_fillComing 97 = .ok (.getfield 33, 3) := by decide +kernel
theorem dX2_fillComing_100 : decode cX2_fillComing 100 = .ok (.getfield 66, 3) := by decide +kernel
theorem dX2_fillComing_103 : decode cX2_fillComing 103 = .ok (.irem, 1) := by decide +kernel
theorem dX2_fillComing_104 : decode cX2_fillComing 104 = .ok (.iastore, 1) := by decide +kernel
theorem dX2_fillComing_105 : decode cX2_fillComing 105 = .ok (.iinc 5 1, 3) := by decide +kernel
theorem dX2_fillComing_108 : decode cX2_fillComing 108 = .ok (.goto (-38), 3) := by decide +kernel
theorem dX2_fillComing_111 : decode cX2_fillComing 111 = .ok (.iinc 3 1, 3) := by decide +kernel
theorem dX2_fillComing_114 : decode cX2_fillComing 114 = .ok (.goto (-68), 3) := by decide +kernel
theorem dX2_fillComing_117 : decode cX2_fillComing 117 = .ok (.iinc 1 (-1), 3) := by decide +kernel
theorem dX2_fillComing_120 : decode cX2_fillComing 120 = .ok (.goto (-100), 3) := by decide +kernel
theorem dX2_fillComing_123 : decode cX2_fillComing 123 = .ok (.return_, 1) := by decide +kernel
theorem dX2_numberCycles_0 : decode cX2_numberCycles 0 = .ok (.aload_n 0, 1) := by decide +kernel
theorem dX2_numberCycles_1 : decode cX2_numberCycles 1 = .ok (.getfield 60, 3) := by decide +kernel
theorem dX2_numberCycles_4 : decode cX2_numberCycles 4 = .ok (.ifCond .eq 4, 3) := by decide +kernel
theorem dX2_numberCycles_7 : decode cX2_numberCycles 7 = .ok (.return_, 1) := by decide +kernel
theorem dX2_numberCycles_8 : decode cX2_numberCycles 8 = .ok (.aload_n 0, 1) := by decide +kernel
theorem dX2_numberCycles_9 : decode cX2_numberCycles 9 = .ok (.invokevirtual 71, 3) := by decide +kernel
theorem dX2_numberCycles_12 : decode cX2_numberCycles 12 = .ok (.pop, 1) := by decide +kernel
theorem dX2_numberCycles_13 : decode cX2_numberCycles 13 = .ok (.aload_n 0, 1) := by decide +kernel
theorem dX2_numberCycles_14 : decode cX2_numberCycles 14 = .ok (.getfield 24, 3) := by decide +kernel
theorem dX2_numberCycles_17 : decode cX2_numberCycles 17 = .ok (.iconst 0, 1) := by decide +kernel
theorem dX2_numberCycles_18 : decode cX2_numberCycles 18 = .ok (.aload_n 0, 1) := by decide +kernel
theorem dX2_numberCycles_19 : decode cX2_numberCycles 19 = .ok (.getfield 33, 3) := by decide +kernel
theorem dX2_numberCycles_22 : decode cX2_numberCycles 22 = .ok (.getfield 78, 3) := by decide +kernel
theorem dX2_numberCycles_25 : decode cX2_numberCycles 25 = .ok (.iconst (-1), 1) := by decide +kernel
theorem dX2_numberCycles_26 : decode cX2_numberCycles 26 = .ok (.invokestatic 90, 3) := by decide +kernel
theorem dX2_numberCycles_29 : decode cX2_numberCycles 29 = .ok (.aload_n 0, 1) := by decide +kernel
theorem dX2_numberCycles_30 : decode cX2_numberCycles 30 = .ok (.iconst 0, 1) := by decide +kernel
theorem dX2_numberCycles_31 : decode cX2_numberCycles 31 = .ok (.putfield 93, 3) := by decide +kernel
theorem dX2_numberCycles_34 : decode cX2_numberCycles 34 = .ok (.iconst 0, 1) := by decide +kernel
theorem dX2_numberCycles_35 : decode cX2_numberCycles 35 = .ok (.istore_n 1, 1) := by decide +kernel
theorem dX2_numberCycles_36 : decode cX2_numberCycles 36 = .ok (.iload_n 1, 1) := by decide +kernel
theorem dX2_numberCycles_37 : decode cX2_numberCycles 37 = .ok (.aload_n 0, 1) := by decide +kernel
theorem dX2_numberCycles_38 : decode cX2_numberCycles 38 = .ok (.getfield 33, 3) := by decide +kernel
theorem dX2_numberCycles_41 : decode cX2_numberCycles 41 = .ok (.getfield 78, 3) := by decide +kernel
theorem dX2_numberCycles_44 : decode cX2_numberCycles 44 = .ok (.if_icmp .ge 48, 3) := by decide +kernel
theorem dX2_numberCycles_47 : decode cX2_numberCycles 47 = .ok (.aload_n 0, 1) := by decide +kernel
theorem dX2_numberCycles_48 : decode cX2_numberCycles 48 = .ok (.getfield 24, 3) := by decide +kernel
theorem dX2_numberCycles_51 : decode cX2_numberCycles 51 = .ok (.iload_n 1, 1) := by decide +kernel
theorem dX2_numberCycles_52 : decode cX2_numberCycles 52 = .ok (.iaload, 1) := by decide +kernel
theorem dX2_numberCycles_53 : decode cX2_numberCycles 53 = .ok (.iconst (-1), 1) := by decide +kernel
theorem dX2_numberCycles_54 : decode cX2_numberCycles 54 = .ok (.if_icmp .ne 32, 3) := by decide +kernel
theorem dX2_numberCycles_57 : decode cX2_numberCycles 57 = .ok (.aload_n 0, 1) := by decide +kernel
theorem dX2_numberCycles_58 : decode cX2_numberCycles 58 = .ok (.getfield 27, 3) := by decide +kernel
theorem dX2_numberCycles_61 : decode cX2_numberCycles 61 = .ok (.aload_n 0, 1) := by decide +kernel
theorem dX2_numberCycles_62 : decode cX2_numberCycles 62 = .ok (.getfield 93, 3) := by decide +kernel
theorem dX2_numberCycles_65 : decode cX2_numberCycles 65 = .ok (.iload_n 1, 1) := by decide +kernel
theorem dX2_numberCycles_66 : decode cX2_numberCycles 66 = .ok (.iastore, 1) := by decide +kernel
theorem dX2_numberCycles_67 : decode cX2_numberCycles 67 = .ok (.aload_n 0, 1) := by decide +kernel
theorem dX2_numberCycles_68 : decode cX2_numberCycles 68 = .ok (.iload_n 1, 1) := by decide +kernel
theorem dX2_numberCycles_69 : decode cX2_numberCycles 69 = .ok (.aload_n 0, 1) := by decide +kernel
theorem dX2_numberCycles_70 : decode cX2_numberCycles 70 = .ok (.getfield 93, 3) := by decide +kernel
theorem dX2_numberCycles_73 : decode cX2_numberCycles 73 = .ok (.invokevirtual 96, 3) := by decide +kernel
theorem dX2_numberCycles_76 : decode cX2_numberCycles 76 = .ok (.aload_n 0, 1) := by decide +kernel
theorem dX2_numberCycles_77 : decode cX2_numberCycles 77 = .ok (.dup, 1) := by decide +kernel
theorem dX2_numberCycles_78 : decode cX2_numberCycles 78 = .ok (.getfield 93, 3) := by decide +kernel
theorem dX2_numberCycles_81 : decode cX2_numberCycles 81 = .ok (.iconst 1, 1) := by decide +kernel
theorem dX2_numberCycles_82 : decode cX2_numberCycles 82 = .ok (.iadd, 1) := by decide +kernel
theorem dX2_numberCycles_83 : decode cX2_numberCycles 83 = .ok (.putfield 93, 3) := by decide +kernel
theorem dX2_numberCycles_86 : decode cX2_numberCycles 86 = .ok (.iinc 1 1, 3) := by decide +kernel
theorem dX2_numberCycles_89 : decode cX2_numberCycles 89 = .ok (.goto (-53), 3) := by decide +kernel
theorem dX2_numberCycles_92 : decode cX2_numberCycles 92 = .ok (.aload_n 0, 1) := by decide +kernel
theorem dX2_numberCycles_93 : decode cX2_numberCycles 93 = .ok (.iconst 1, 1) := by decide +kernel
theorem dX2_numberCycles_94 : decode cX2_numberCycles 94 = .ok (.putfield 60, 3) := by decide +kernel
theorem dX2_numberCycles_97 : decode cX2_numberCycles 97 = .ok (.aload_n 0, 1) := by decide +kernel
theorem dX2_numberCycles_98 : decode cX2_numberCycles 98 = .ok (.iconst 1, 1) := by decide +kernel
theorem dX2_numberCycles_99 : decode cX2_numberCycles 99 = .ok (.putfield 63, 3) := by decide +kernel
theorem dX2_numberCycles_102 : decode cX2_numberCycles 102 = .ok (.return_, 1) := by decide +kernel
theorem dX2_markCycle_0 : decode cX2_markCycle 0 = .ok (.iload_n 1, 1) := by decide +kernel
theorem dX2_markCycle_1 : decode cX2_markCycle 1 = .ok (.istore_n 3, 1) := by decide +kernel
theorem dX2_markCycle_2 : decode cX2_markCycle 2 = .ok (.iconst 0, 1) := by decide +kernel
theorem dX2_markCycle_3 : decode cX2_markCycle 3 = .ok (.istore 4, 2) := by decide +kernel
theorem dX2_markCycle_5 : decode cX2_markCycle 5 = .ok (.iload 4, 2) := by decide +kernel
theorem dX2_markCycle_7 : decode cX2_markCycle 7 = .ok (.aload_n 0, 1) := by decide +kernel
theorem dX2_markCycle_8 : decode cX2_markCycle 8 = .ok (.getfield 33, 3) := by decide +kernel
theorem dX2_markCycle_11 : decode cX2_markCycle 11 = .ok (.getfield 78, 3) := by decide +kernel
theorem dX2_markCycle_14 : decode cX2_markCycle 14 = .ok (.if_icmp .ge 33, 3) := by decide +kernel
theorem dX2_markCycle_17 : decode cX2_markCycle 17 = .ok (.aload_n 0, 1) := by decide +kernel
theorem dX2_markCycle_18 : decode cX2_markCycle 18 = .ok (.getfield 24, 3) := by decide +kernel
theorem dX2_markCycle_21 : decode cX2_markCycle 21 = .ok (.iload_n 3, 1) := by decide +kernel
theorem dX2_markCycle_22 : decode cX2_markCycle 22 = .ok (.iaload, 1) := by decide +kernel
theorem dX2_markCycle_23 : decode cX2_markCycle 23 = .ok (.iconst (-1), 1) := by decide +kernel
theorem dX2_markCycle_24 : decode cX2_markCycle 24 = .ok (.if_icmp .ne 23, 3) := by decide +kernel
theorem dX2_markCycle_27 : decode cX2_markCycle 27 = .ok (.aload_n 0, 1) := by decide +kernel
theorem dX2_markCycle_28 : decode cX2_markCycle 28 = .ok (.getfield 24, 3) := by decide +kernel
theorem dX2_markCycle_31 : decode cX2_markCycle 31 = .ok (.iload_n 3, 1) := by decide +kernel
theorem dX2_markCycle_32 : decode cX2_markCycle 32 = .ok (.iload_n 2, 1) := by decide +kernel
theorem dX2_markCycle_33 : decode cX2_markCycle 33 = .ok (.iastore, 1) := by decide +kernel
theorem dX2_markCycle_34 : decode cX2_markCycle 34 = .ok (.aload_n 0, 1) := by decide +kernel
theorem dX2_markCycle_35 : decode cX2_markCycle 35 = .ok (.getfield 21, 3) := by decide +kernel
theorem dX2_markCycle_38 : decode cX2_markCycle 38 = .ok (.iload_n 3, 1) := by decide +kernel
theorem dX2_markCycle_39 : decode cX2_markCycle 39 = .ok (.iaload, 1) := by decide +kernel
theorem dX2_markCycle_40 : decode cX2_markCycle 40 = .ok (.istore_n 3, 1) := by decide +kernel
theorem dX2_markCycle_41 : decode cX2_markCycle 41 = .ok (.iinc 4 1, 3) := by decide +kernel
theorem dX2_markCycle_44 : decode cX2_markCycle 44 = .ok (.goto (-39), 3) := by decide +kernel
theorem dX2_markCycle_47 : decode cX2_markCycle 47 = .ok (.return_, 1) := by decide +kernel
theorem dX2_howManyCycles_0 : decode cX2_howManyCycles 0 = .ok (.aload_n 0, 1) := by decide +kernel
theorem dX2_howManyCycles_1 : decode cX2_howManyCycles 1 = .ok (.getfield 63, 3) := by decide +kernel
theorem dX2_howManyCycles_4 : decode cX2_howManyCycles 4 = .ok (.ifCond .ne 7, 3) := by decide +kernel
theorem dX2_howManyCycles_7 : decode cX2_howManyCycles 7 = .ok (.aload_n 0, 1) := by decide +kernel
theorem dX2_howManyCycles_8 : decode cX2_howManyCycles 8 = .ok (.invokevirtual 100, 3) := by decide +kernel
theorem dX2_howManyCycles_11 : decode cX2_howManyCycles 11 = .ok (.aload_n 0, 1) := by decide +kernel
theorem dX2_howManyCycles_12 : decode cX2_howManyCycles 12 = .ok (.getfield 93, 3) := by decide +kernel
theorem dX2_howManyCycles_15 : decode cX2_howManyCycles 15 = .ok (.ireturn, 1) := by decide +kernel
theorem dX2_numberOfCycle_0 : decode cX2_numberOfCycle 0 = .ok (.aload_n 0, 1) := by decide +kernel
theorem dX2_numberOfCycle_1 : decode cX2_numberOfCycle 1 = .ok (.invokevirtual 100, 3) := by decide +kernel
theorem dX2_numberOfCycle_4 : decode cX2_numberOfCycle 4 = .ok (.aload_n 0, 1) := by decide +kernel
theorem dX2_numberOfCycle_5 : decode cX2_numberOfCycle 5 = .ok (.getfield 24, 3) := by decide +kernel
theorem dX2_numberOfCycle_8 : decode cX2_numberOfCycle 8 = .ok (.iload_n 1, 1) := by decide +kernel
theorem dX2_numberOfCycle_9 : decode cX2_numberOfCycle 9 = .ok (.iaload, 1) := by decide +kernel
theorem dX2_numberOfCycle_10 : decode cX2_numberOfCycle 10 = .ok (.ireturn, 1) := by decide +kernel
theorem dX2_leastOfCycle_0 : decode cX2_leastOfCycle 0 = .ok (.aload_n 0, 1) := by decide +kernel
theorem dX2_leastOfCycle_1 : decode cX2_leastOfCycle 1 = .ok (.invokevirtual 100, 3) := by decide +kernel
theorem dX2_leastOfCycle_4 : decode cX2_leastOfCycle 4 = .ok (.aload_n 0, 1) := by decide +kernel
theorem dX2_leastOfCycle_5 : decode cX2_leastOfCycle 5 = .ok (.getfield 27, 3) := by decide +kernel
theorem dX2_leastOfCycle_8 : decode cX2_leastOfCycle 8 = .ok (.iload_n 1, 1) := by decide +kernel
theorem dX2_leastOfCycle_9 : decode cX2_leastOfCycle 9 = .ok (.iaload, 1) := by decide +kernel
theorem dX2_leastOfCycle_10 : decode cX2_leastOfCycle 10 = .ok (.ireturn, 1) := by decide +kernel
theorem dX2_wordsOfCycle_0 : decode cX2_wordsOfCycle 0 = .ok (.aload_n 0, 1) := by decide +kernel
theorem dX2_wordsOfCycle_1 : decode cX2_wordsOfCycle 1 = .ok (.invokevirtual 100, 3) := by decide +kernel
theorem dX2_wordsOfCycle_4 : decode cX2_wordsOfCycle 4 = .ok (.aload_n 0, 1) := by decide +kernel
theorem dX2_wordsOfCycle_5 : decode cX2_wordsOfCycle 5 = .ok (.getfield 27, 3) := by decide +kernel
theorem dX2_wordsOfCycle_8 : decode cX2_wordsOfCycle 8 = .ok (.iload_n 1, 1) := by decide +kernel
theorem dX2_wordsOfCycle_9 : decode cX2_wordsOfCycle 9 = .ok (.iaload, 1) := by decide +kernel
theorem dX2_wordsOfCycle_10 : decode cX2_wordsOfCycle 10 = .ok (.istore_n 2, 1) := by decide +kernel
theorem dX2_wordsOfCycle_11 : decode cX2_wordsOfCycle 11 = .ok (.aload_n 0, 1) := by decide +kernel
theorem dX2_wordsOfCycle_12 : decode cX2_wordsOfCycle 12 = .ok (.getfield 21, 3) := by decide +kernel
theorem dX2_wordsOfCycle_15 : decode cX2_wordsOfCycle 15 = .ok (.iload_n 2, 1) := by decide +kernel
theorem dX2_wordsOfCycle_16 : decode cX2_wordsOfCycle 16 = .ok (.iaload, 1) := by decide +kernel
theorem dX2_wordsOfCycle_17 : decode cX2_wordsOfCycle 17 = .ok (.istore_n 3, 1) := by decide +kernel
theorem dX2_wordsOfCycle_18 : decode cX2_wordsOfCycle 18 = .ok (.iconst 1, 1) := by decide +kernel
theorem dX2_wordsOfCycle_19 : decode cX2_wordsOfCycle 19 = .ok (.istore 4, 2) := by decide +kernel
theorem dX2_wordsOfCycle_21 : decode cX2_wordsOfCycle 21 = .ok (.iload 4, 2) := by decide +kernel
theorem dX2_wordsOfCycle_23 : decode cX2_wordsOfCycle 23 = .ok (.aload_n 0, 1) := by decide +kernel
theorem dX2_wordsOfCycle_24 : decode cX2_wordsOfCycle 24 = .ok (.getfield 33, 3) := by decide +kernel
theorem dX2_wordsOfCycle_27 : decode cX2_wordsOfCycle 27 = .ok (.getfield 78, 3) := by decide +kernel
theorem dX2_wordsOfCycle_30 : decode cX2_wordsOfCycle 30 = .ok (.if_icmp .ge 21, 3) := by decide +kernel
theorem dX2_wordsOfCycle_33 : decode cX2_wordsOfCycle 33 = .ok (.iload_n 3, 1) := by decide +kernel
theorem dX2_wordsOfCycle_34 : decode cX2_wordsOfCycle 34 = .ok (.iload_n 2, 1) := by decide +kernel
theorem dX2_wordsOfCycle_35 : decode cX2_wordsOfCycle 35 = .ok (.if_icmp .eq 16, 3) := by decide +kernel
theorem dX2_wordsOfCycle_38 : decode cX2_wordsOfCycle 38 = .ok (.aload_n 0, 1) := by decide +kernel
theorem dX2_wordsOfCycle_39 : decode cX2_wordsOfCycle 39 = .ok (.getfield 21, 3) := by decide +kernel
theorem dX2_wordsOfCycle_42 : decode cX2_wordsOfCycle 42 = .ok (.iload_n 3, 1) := by decide +kernel
theorem dX2_wordsOfCycle_43 : decode cX2_wordsOfCycle 43 = .ok (.iaload, 1) := by decide +kernel
theorem dX2_wordsOfCycle_44 : decode cX2_wordsOfCycle 44 = .ok (.istore_n 3, 1) := by decide +kernel
theorem dX2_wordsOfCycle_45 : decode cX2_wordsOfCycle 45 = .ok (.iinc 4 1, 3) := by decide +kernel
theorem dX2_wordsOfCycle_48 : decode cX2_wordsOfCycle 48 = .ok (.goto (-27), 3) := by decide +kernel
theorem dX2_wordsOfCycle_51 : decode cX2_wordsOfCycle 51 = .ok (.iload 4, 2) := by decide +kernel
theorem dX2_wordsOfCycle_53 : decode cX2_wordsOfCycle 53 = .ok (.ireturn, 1) := by decide +kernel
theorem dX2_makeExchange_0 : decode cX2_makeExchange 0 = .ok (.aload_n 0, 1) := by decide +kernel
theorem dX2_makeExchange_1 : decode cX2_makeExchange 1 = .ok (.aload_n 0, 1) := by decide +kernel
theorem dX2_makeExchange_2 : decode cX2_makeExchange 2 = .ok (.iload_n 1, 1) := by decide +kernel
theorem dX2_makeExchange_3 : decode cX2_makeExchange 3 = .ok (.iload_n 2, 1) := by decide +kernel
theorem dX2_makeExchange_4 : decode cX2_makeExchange 4 = .ok (.invokevirtual 103, 3) := by decide +kernel
theorem dX2_makeExchange_7 : decode cX2_makeExchange 7 = .ok (.putfield 93, 3) := by decide +kernel
theorem dX2_makeExchange_10 : decode cX2_makeExchange 10 = .ok (.aload_n 0, 1) := by decide +kernel
theorem dX2_makeExchange_11 : decode cX2_makeExchange 11 = .ok (.iload_n 1, 1) := by decide +kernel
theorem dX2_makeExchange_12 : decode cX2_makeExchange 12 = .ok (.iload_n 2, 1) := by decide +kernel
theorem dX2_makeExchange_13 : decode cX2_makeExchange 13 = .ok (.invokevirtual 107, 3) := by decide +kernel
theorem dX2_makeExchange_16 : decode cX2_makeExchange 16 = .ok (.aload_n 0, 1) := by decide +kernel
theorem dX2_makeExchange_17 : decode cX2_makeExchange 17 = .ok (.iload_n 1, 1) := by decide +kernel
theorem dX2_makeExchange_18 : decode cX2_makeExchange 18 = .ok (.iload_n 2, 1) := by decide +kernel
theorem dX2_makeExchange_19 : decode cX2_makeExchange 19 = .ok (.invokevirtual 110, 3) := by decide +kernel
theorem dX2_makeExchange_22 : decode cX2_makeExchange 22 = .ok (.aload_n 0, 1) := by decide +kernel
theorem dX2_makeExchange_23 : decode cX2_makeExchange 23 = .ok (.getfield 93, 3) := by decide +kernel
theorem dX2_makeExchange_26 : decode cX2_makeExchange 26 = .ok (.ireturn, 1) := by decide +kernel
theorem dX2_takeBack_0 : decode cX2_takeBack 0 = .ok (.aload_n 0, 1) := by decide +kernel
theorem dX2_takeBack_1 : decode cX2_takeBack 1 = .ok (.dup, 1) := by decide +kernel
theorem dX2_takeBack_2 : decode cX2_takeBack 2 = .ok (.getfield 53, 3) := by decide +kernel
theorem dX2_takeBack_5 : decode cX2_takeBack 5 = .ok (.iconst 1, 1) := by decide +kernel
theorem dX2_takeBack_6 : decode cX2_takeBack 6 = .ok (.isub, 1) := by decide +kernel
theorem dX2_takeBack_7 : decode cX2_takeBack 7 = .ok (.putfield 53, 3) := by decide +kernel
theorem dX2_takeBack_10 : decode cX2_takeBack 10 = .ok (.aload_n 0, 1) := by decide +kernel
theorem dX2_takeBack_11 : decode cX2_takeBack 11 = .ok (.aload_n 0, 1) := by decide +kernel
theorem dX2_takeBack_12 : decode cX2_takeBack 12 = .ok (.aload_n 0, 1) := by decide +kernel
theorem dX2_takeBack_13 : decode cX2_takeBack 13 = .ok (.getfield 15, 3) := by decide +kernel
theorem dX2_takeBack_16 : decode cX2_takeBack 16 = .ok (.aload_n 0, 1) := by decide +kernel
theorem dX2_takeBack_17 : decode cX2_takeBack 17 = .ok (.getfield 53, 3) := by decide +kernel
theorem dX2_takeBack_20 : decode cX2_takeBack 20 = .ok (.iaload, 1) := by decide +kernel
theorem dX2_takeBack_21 : decode cX2_takeBack 21 = .ok (.aload_n 0, 1) := by decide +kernel
theorem dX2_takeBack_22 : decode cX2_takeBack 22 = .ok (.getfield 18, 3) := by decide +kernel
theorem dX2_takeBack_25 : decode cX2_takeBack 25 = .ok (.aload_n 0, 1) := by decide +kernel
theorem dX2_takeBack_26 : decode cX2_takeBack 26 = .ok (.getfield 53, 3) := by decide +kernel
theorem dX2_takeBack_29 : decode cX2_takeBack 29 = .ok (.iaload, 1) := by decide +kernel
theorem dX2_takeBack_30 : decode cX2_takeBack 30 = .ok (.invokevirtual 103, 3) := by decide +kernel
theorem dX2_takeBack_33 : decode cX2_takeBack 33 = .ok (.putfield 93, 3) := by decide +kernel
theorem dX2_takeBack_36 : decode cX2_takeBack 36 = .ok (.aload_n 0, 1) := by decide +kernel
theorem dX2_takeBack_37 : decode cX2_takeBack 37 = .ok (.aload_n 0, 1) := by decide +kernel
theorem dX2_takeBack_38 : decode cX2_takeBack 38 = .ok (.getfield 15, 3) := by decide +kernel
theorem dX2_takeBack_41 : decode cX2_takeBack 41 = .ok (.aload_n 0, 1) := by decide +kernel
theorem dX2_takeBack_42 : decode cX2_takeBack 42 = .ok (.getfield 53, 3) := by decide +kernel
theorem dX2_takeBack_45 : decode cX2_takeBack 45 = .ok (.iaload, 1) := by decide +kernel
theorem dX2_takeBack_46 : decode cX2_takeBack 46 = .ok (.aload_n 0, 1) := by decide +kernel
theorem dX2_takeBack_47 : decode cX2_takeBack 47 = .ok (.getfield 18, 3) := by decide +kernel
theorem dX2_takeBack_50 : decode cX2_takeBack 50 = .ok (.aload_n 0, 1) := by decide +kernel
theorem dX2_takeBack_51 : decode cX2_takeBack 51 = .ok (.getfield 53, 3) := by decide +kernel
theorem dX2_takeBack_54 : decode cX2_takeBack 54 = .ok (.iaload, 1) := by decide +kernel
theorem dX2_takeBack_55 : decode cX2_takeBack 55 = .ok (.invokevirtual 107, 3) := by decide +kernel
theorem dX2_takeBack_58 : decode cX2_takeBack 58 = .ok (.aload_n 0, 1) := by decide +kernel
theorem dX2_takeBack_59 : decode cX2_takeBack 59 = .ok (.getfield 53, 3) := by decide +kernel
theorem dX2_takeBack_62 : decode cX2_takeBack 62 = .ok (.ireturn, 1) := by decide +kernel
theorem dX2_noteExchange_0 : decode cX2_noteExchange 0 = .ok (.aload_n 0, 1) := by decide +kernel
theorem dX2_noteExchange_1 : decode cX2_noteExchange 1 = .ok (.getfield 15, 3) := by decide +kernel
theorem dX2_noteExchange_4 : decode cX2_noteExchange 4 = .ok (.aload_n 0, 1) := by decide +kernel
theorem dX2_noteExchange_5 : decode cX2_noteExchange 5 = .ok (.getfield 53, 3) := by decide +kernel
theorem dX2_noteExchange_8 : decode cX2_noteExchange 8 = .ok (.iload_n 1, 1) := by decide +kernel
theorem dX2_noteExchange_9 : decode cX2_noteExchange 9 = .ok (.iastore, 1) := by decide +kernel
theorem dX2_noteExchange_10 : decode cX2_noteExchange 10 = .ok (.aload_n 0, 1) := by decide +kernel
theorem dX2_noteExchange_11 : decode cX2_noteExchange 11 = .ok (.getfield 18, 3) := by decide +kernel
theorem dX2_noteExchange_14 : decode cX2_noteExchange 14 = .ok (.aload_n 0, 1) := by decide +kernel
theorem dX2_noteExchange_15 : decode cX2_noteExchange 15 = .ok (.getfield 53, 3) := by decide +kernel
theorem dX2_noteExchange_18 : decode cX2_noteExchange 18 = .ok (.iload_n 2, 1) := by decide +kernel
theorem dX2_noteExchange_19 : decode cX2_noteExchange 19 = .ok (.iastore, 1) := by decide +kernel
theorem dX2_noteExchange_20 : decode cX2_noteExchange 20 = .ok (.aload_n 0, 1) := by decide +kernel
theorem dX2_noteExchange_21 : decode cX2_noteExchange 21 = .ok (.dup, 1) := by decide +kernel
theorem dX2_noteExchange_22 : decode cX2_noteExchange 22 = .ok (.getfield 53, 3) := by decide +kernel
theorem dX2_noteExchange_25 : decode cX2_noteExchange 25 = .ok (.iconst 1, 1) := by decide +kernel
theorem dX2_noteExchange_26 : decode cX2_noteExchange 26 = .ok (.iadd, 1) := by decide +kernel
theorem dX2_noteExchange_27 : decode cX2_noteExchange 27 = .ok (.putfield 53, 3) := by decide +kernel
theorem dX2_noteExchange_30 : decode cX2_noteExchange 30 = .ok (.return_, 1) := by decide +kernel
theorem dX2_swapLeads_0 : decode cX2_swapLeads 0 = .ok (.aload_n 0, 1) := by decide +kernel
theorem dX2_swapLeads_1 : decode cX2_swapLeads 1 = .ok (.getfield 21, 3) := by decide +kernel
theorem dX2_swapLeads_4 : decode cX2_swapLeads 4 = .ok (.iload_n 1, 1) := by decide +kernel
theorem dX2_swapLeads_5 : decode cX2_swapLeads 5 = .ok (.iaload, 1) := by decide +kernel
theorem dX2_swapLeads_6 : decode cX2_swapLeads 6 = .ok (.istore_n 3, 1) := by decide +kernel
theorem dX2_swapLeads_7 : decode cX2_swapLeads 7 = .ok (.aload_n 0, 1) := by decide +kernel
theorem dX2_swapLeads_8 : decode cX2_swapLeads 8 = .ok (.getfield 21, 3) := by decide +kernel
theorem dX2_swapLeads_11 : decode cX2_swapLeads 11 = .ok (.iload_n 1, 1) := by decide +kernel
theorem dX2_swapLeads_12 : decode cX2_swapLeads 12 = .ok (.aload_n 0, 1) := by decide +kernel
theorem dX2_swapLeads_13 : decode cX2_swapLeads 13 = .ok (.getfield 21, 3) := by decide +kernel
theorem dX2_swapLeads_16 : decode cX2_swapLeads 16 = .ok (.iload_n 2, 1) := by decide +kernel
theorem dX2_swapLeads_17 : decode cX2_swapLeads 17 = .ok (.iaload, 1) := by decide +kernel
theorem dX2_swapLeads_18 : decode cX2_swapLeads 18 = .ok (.iastore, 1) := by decide +kernel
theorem dX2_swapLeads_19 : decode cX2_swapLeads 19 = .ok (.aload_n 0, 1) := by decide +kernel
theorem dX2_swapLeads_20 : decode cX2_swapLeads 20 = .ok (.getfield 21, 3) := by decide +kernel
theorem dX2_swapLeads_23 : decode cX2_swapLeads 23 = .ok (.iload_n 2, 1) := by decide +kernel
theorem dX2_swapLeads_24 : decode cX2_swapLeads 24 = .ok (.iload_n 3, 1) := by decide +kernel
theorem dX2_swapLeads_25 : decode cX2_swapLeads 25 = .ok (.iastore, 1) := by decide +kernel
theorem dX2_swapLeads_26 : decode cX2_swapLeads 26 = .ok (.aload_n 0, 1) := by decide +kernel
theorem dX2_swapLeads_27 : decode cX2_swapLeads 27 = .ok (.iconst 0, 1) := by decide +kernel
theorem dX2_swapLeads_28 : decode cX2_swapLeads 28 = .ok (.putfield 60, 3) := by decide +kernel
theorem dX2_swapLeads_31 : decode cX2_swapLeads 31 = .ok (.return_, 1) := by decide +kernel
theorem dX2_countBehindExchange_0 : decode cX2_countBehindExchange 0 = .ok (.aload_n 0, 1) := by decide +kernel
theorem dX2_countBehindExchange_1 : decode cX2_countBehindExchange 1 = .ok (.invokevirtual 113, 3) := by decide +kernel
theorem dX2_countBehindExchange_4 : decode cX2_countBehindExchange 4 = .ok (.istore_n 3, 1) := by decide +kernel
theorem dX2_countBehindExchange_5 : decode cX2_countBehindExchange 5 = .ok (.aload_n 0, 1) := by decide +kernel
theorem dX2_countBehindExchange_6 : decode cX2_countBehindExchange 6 = .ok (.iload_n 1, 1) := by decide +kernel
theorem dX2_countBehindExchange_7 : decode cX2_countBehindExchange 7 = .ok (.iload_n 2, 1) := by decide +kernel
theorem dX2_countBehindExchange_8 : decode cX2_countBehindExchange 8 = .ok (.invokevirtual 117, 3) := by decide +kernel
theorem dX2_countBehindExchange_11 : decode cX2_countBehindExchange 11 = .ok (.ifCond .eq 9, 3) := by decide +kernel
theorem dX2_countBehindExchange_14 : decode cX2_countBehindExchange 14 = .ok (.iload_n 3, 1) := by decide +kernel
theorem dX2_countBehindExchange_15 : decode cX2_countBehindExchange 15 = .ok (.iconst 1, 1) := by decide +kernel
theorem dX2_countBehindExchange_16 : decode cX2_countBehindExchange 16 = .ok (.iadd, 1) := by decide +kernel
theorem dX2_countBehindExchange_17 : decode cX2_countBehindExchange 17 = .ok (.goto 6, 3) := by decide +kernel
theorem dX2_countBehindExchange_20 : decode cX2_countBehindExchange 20 = .ok (.iload_n 3, 1) := by decide +kernel
theorem dX2_countBehindExchange_21 : decode cX2_countBehindExchange 21 = .ok (.iconst 1, 1) := by decide +kernel
theorem dX2_countBehindExchange_22 : decode cX2_countBehindExchange 22 = .ok (.isub, 1) := by decide +kernel
theorem dX2_countBehindExchange_23 : decode cX2_countBehindExchange 23 = .ok (.ireturn, 1) := by decide +kernel
theorem dX2_inOneCycle_0 : decode cX2_inOneCycle 0 = .ok (.aload_n 0, 1) := by decide +kernel
theorem dX2_inOneCycle_1 : decode cX2_inOneCycle 1 = .ok (.getfield 60, 3) := by decide +kernel
theorem dX2_inOneCycle_4 : decode cX2_inOneCycle 4 = .ok (.ifCond .eq 24, 3) := by decide +kernel
theorem dX2_inOneCycle_7 : decode cX2_inOneCycle 7 = .ok (.aload_n 0, 1) := by decide +kernel
theorem dX2_inOneCycle_8 : decode cX2_inOneCycle 8 = .ok (.getfield 24, 3) := by decide +kernel
theorem dX2_inOneCycle_11 : decode cX2_inOneCycle 11 = .ok (.iload_n 1, 1) := by decide +kernel
theorem dX2_inOneCycle_12 : decode cX2_inOneCycle 12 = .ok (.iaload, 1) := by decide +kernel
theorem dX2_inOneCycle_13 : decode cX2_inOneCycle 13 = .ok (.aload_n 0, 1) := by decide +kernel
theorem dX2_inOneCycle_14 : decode cX2_inOneCycle 14 = .ok (.getfield 24, 3) := by decide +kernel
theorem dX2_inOneCycle_17 : decode cX2_inOneCycle 17 = .ok (.iload_n 2, 1) := by decide +kernel
theorem dX2_inOneCycle_18 : decode cX2_inOneCycle 18 = .ok (.iaload, 1) := by decide +kernel
theorem dX2_inOneCycle_19 : decode cX2_inOneCycle 19 = .ok (.if_icmp .ne 7, 3) := by decide +kernel
theorem dX2_inOneCycle_22 : decode cX2_inOneCycle 22 = .ok (.iconst 1, 1) := by decide +kernel
theorem dX2_inOneCycle_23 : decode cX2_inOneCycle 23 = .ok (.goto 4, 3) := by decide +kernel
theorem dX2_inOneCycle_26 : decode cX2_inOneCycle 26 = .ok (.iconst 0, 1) := by decide +kernel
theorem dX2_inOneCycle_27 : decode cX2_inOneCycle 27 = .ok (.ireturn, 1) := by decide +kernel
theorem dX2_inOneCycle_28 : decode cX2_inOneCycle 28 = .ok (.aload_n 0, 1) := by decide +kernel
theorem dX2_inOneCycle_29 : decode cX2_inOneCycle 29 = .ok (.getfield 21, 3) := by decide +kernel
theorem dX2_inOneCycle_32 : decode cX2_inOneCycle 32 = .ok (.iload_n 1, 1) := by decide +kernel
theorem dX2_inOneCycle_33 : decode cX2_inOneCycle 33 = .ok (.iaload, 1) := by decide +kernel
theorem dX2_inOneCycle_34 : decode cX2_inOneCycle 34 = .ok (.istore_n 3, 1) := by decide +kernel
theorem dX2_inOneCycle_35 : decode cX2_inOneCycle 35 = .ok (.iconst 0, 1) := by decide +kernel
theorem dX2_inOneCycle_36 : decode cX2_inOneCycle 36 = .ok (.istore 4, 2) := by decide +kernel
theorem dX2_inOneCycle_38 : decode cX2_inOneCycle 38 = .ok (.iload 4, 2) := by decide +kernel
theorem dX2_inOneCycle_40 : decode cX2_inOneCycle 40 = .ok (.aload_n 0, 1) := by decide +kernel
theorem dX2_inOneCycle_41 : decode cX2_inOneCycle 41 = .ok (.getfield 33, 3) := by decide +kernel
theorem dX2_inOneCycle_44 : decode cX2_inOneCycle 44 = .ok (.getfield 78, 3) := by decide +kernel
theorem dX2_inOneCycle_47 : decode cX2_inOneCycle 47 = .ok (.if_icmp .ge 26, 3) := by decide +kernel
theorem dX2_inOneCycle_50 : decode cX2_inOneCycle 50 = .ok (.iload_n 3, 1) := by decide +kernel
theorem dX2_inOneCycle_51 : decode cX2_inOneCycle 51 = .ok (.iload_n 1, 1) := by decide +kernel
theorem dX2_inOneCycle_52 : decode cX2_inOneCycle 52 = .ok (.if_icmp .eq 21, 3) := by decide +kernel
theorem dX2_inOneCycle_55 : decode cX2_inOneCycle 55 = .ok (.iload_n 3, 1) := by decide +kernel
theorem dX2_inOneCycle_56 : decode cX2_inOneCycle 56 = .ok (.iload_n 2, 1) := by decide +kernel
theorem dX2_inOneCycle_57 : decode cX2_inOneCycle 57 = .ok (.if_icmp .eq 16, 3) := by decide +kernel
theorem dX2_inOneCycle_60 : decode cX2_inOneCycle 60 = .ok (.aload_n 0, 1) := by decide +kernel
theorem dX2_inOneCycle_61 : decode cX2_inOneCycle 61 = .ok (.getfield 21, 3) := by decide +kernel
theorem dX2_inOneCycle_64 : decode cX2_inOneCycle 64 = .ok (.iload_n 3, 1) := by decide +kernel
theorem dX2_inOneCycle_65 : decode cX2_inOneCycle 65 = .ok (.iaload, 1) := by decide +kernel
theorem dX2_inOneCycle_66 : decode cX2_inOneCycle 66 = .ok (.istore_n 3, 1) := by decide +kernel
theorem dX2_inOneCycle_67 : decode cX2_inOneCycle 67 = .ok (.iinc 4 1, 3) := by decide +kernel
theorem dX2_inOneCycle_70 : decode cX2_inOneCycle 70 = .ok (.goto (-32), 3) := by decide +kernel
theorem dX2_inOneCycle_73 : decode cX2_inOneCycle 73 = .ok (.iload_n 3, 1) := by decide +kernel
theorem dX2_inOneCycle_74 : decode cX2_inOneCycle 74 = .ok (.iload_n 2, 1) := by decide +kernel
theorem dX2_inOneCycle_75 : decode cX2_inOneCycle 75 = .ok (.if_icmp .ne 7, 3) := by decide +kernel
theorem dX2_inOneCycle_78 : decode cX2_inOneCycle 78 = .ok (.iconst 1, 1) := by decide +kernel
theorem dX2_inOneCycle_79 : decode cX2_inOneCycle 79 = .ok (.goto 4, 3) := by decide +kernel
theorem dX2_inOneCycle_82 : decode cX2_inOneCycle 82 = .ok (.iconst 0, 1) := by decide +kernel
theorem dX2_inOneCycle_83 : decode cX2_inOneCycle 83 = .ok (.ireturn, 1) := by decide +kernel
theorem dX2_joinCycles_0 : decode cX2_joinCycles 0 = .ok (.aload_n 0, 1) := by decide +kernel
theorem dX2_joinCycles_1 : decode cX2_joinCycles 1 = .ok (.invokevirtual 100, 3) := by decide +kernel
theorem dX2_joinCycles_4 : decode cX2_joinCycles 4 = .ok (.aload_n 0, 1) := by decide +kernel
theorem dX2_joinCycles_5 : decode cX2_joinCycles 5 = .ok (.getfield 93, 3) := by decide +kernel
theorem dX2_joinCycles_8 : decode cX2_joinCycles 8 = .ok (.iconst 1, 1) := by decide +kernel
theorem dX2_joinCycles_9 : decode cX2_joinCycles 9 = .ok (.isub, 1) := by decide +kernel
theorem dX2_joinCycles_10 : decode cX2_joinCycles 10 = .ok (.istore_n 1, 1) := by decide +kernel
theorem dX2_joinCycles_11 : decode cX2_joinCycles 11 = .ok (.aload_n 0, 1) := by decide +kernel
theorem dX2_joinCycles_12 : decode cX2_joinCycles 12 = .ok (.getfield 53, 3) := by decide +kernel
theorem dX2_joinCycles_15 : decode cX2_joinCycles 15 = .ok (.iload_n 1, 1) := by decide +kernel
theorem dX2_joinCycles_16 : decode cX2_joinCycles 16 = .ok (.iadd, 1) := by decide +kernel
theorem dX2_joinCycles_17 : decode cX2_joinCycles 17 = .ok (.sipush 400, 3) := by decide +kernel
theorem dX2_joinCycles_20 : decode cX2_joinCycles 20 = .ok (.if_icmp .le 6, 3) := by decide +kernel
theorem dX2_joinCycles_23 : decode cX2_joinCycles 23 = .ok (.bipush (-4), 2) := by decide +kernel
theorem dX2_joinCycles_25 : decode cX2_joinCycles 25 = .ok (.ireturn, 1) := by decide +kernel
theorem dX2_joinCycles_26 : decode cX2_joinCycles 26 = .ok (.iconst 0, 1) := by decide +kernel
theorem dX2_joinCycles_27 : decode cX2_joinCycles 27 = .ok (.istore_n 2, 1) := by decide +kernel
theorem dX2_joinCycles_28 : decode cX2_joinCycles 28 = .ok (.iload_n 2, 1) := by decide +kernel
theorem dX2_joinCycles_29 : decode cX2_joinCycles 29 = .ok (.aload_n 0, 1) := by decide +kernel
theorem dX2_joinCycles_30 : decode cX2_joinCycles 30 = .ok (.getfield 93, 3) := by decide +kernel
theorem dX2_joinCycles_33 : decode cX2_joinCycles 33 = .ok (.if_icmp .ge 16, 3) := by decide +kernel
theorem dX2_joinCycles_36 : decode cX2_joinCycles 36 = .ok (.aload_n 0, 1) := by decide +kernel
theorem dX2_joinCycles_37 : decode cX2_joinCycles 37 = .ok (.getfield 30, 3) := by decide +kernel
theorem dX2_joinCycles_40 : decode cX2_joinCycles 40 = .ok (.iload_n 2, 1) := by decide +kernel
theorem dX2_joinCycles_41 : decode cX2_joinCycles 41 = .ok (.iload_n 2, 1) := by decide +kernel
theorem dX2_joinCycles_42 : decode cX2_joinCycles 42 = .ok (.iastore, 1) := by decide +kernel
theorem dX2_joinCycles_43 : decode cX2_joinCycles 43 = .ok (.iinc 2 1, 3) := by decide +kernel
theorem dX2_joinCycles_46 : decode cX2_joinCycles 46 = .ok (.goto (-18), 3) := by decide +kernel
theorem dX2_joinCycles_49 : decode cX2_joinCycles 49 = .ok (.iconst 0, 1) := by decide +kernel
theorem dX2_joinCycles_50 : decode cX2_joinCycles 50 = .ok (.istore_n 2, 1) := by decide +kernel
theorem dX2_joinCycles_51 : decode cX2_joinCycles 51 = .ok (.iconst 0, 1) := by decide +kernel
theorem dX2_joinCycles_52 : decode cX2_joinCycles 52 = .ok (.istore_n 3, 1) := by decide +kernel
theorem dX2_joinCycles_53 : decode cX2_joinCycles 53 = .ok (.iload_n 3, 1) := by decide +kernel
theorem dX2_joinCycles_54 : decode cX2_joinCycles 54 = .ok (.aload_n 0, 1) := by decide +kernel
theorem dX2_joinCycles_55 : decode cX2_joinCycles 55 = .ok (.getfield 33, 3) := by decide +kernel
theorem dX2_joinCycles_58 : decode cX2_joinCycles 58 = .ok (.getfield 78, 3) := by decide +kernel
theorem dX2_joinCycles_61 : decode cX2_joinCycles 61 = .ok (.aload_n 0, 1) := by decide +kernel
theorem dX2_joinCycles_62 : decode cX2_joinCycles 62 = .ok (.getfield 33, 3) := by decide +kernel
theorem dX2_joinCycles_65 : decode cX2_joinCycles 65 = .ok (.getfield 81, 3) := by decide +kernel
theorem dX2_joinCycles_68 : decode cX2_joinCycles 68 = .ok (.isub, 1) := by decide +kernel
theorem dX2_joinCycles_69 : decode cX2_joinCycles 69 = .ok (.if_icmp .ge 34, 3) := by decide +kernel
theorem dX2_joinCycles_72 : decode cX2_joinCycles 72 = .ok (.iload_n 2, 1) := by decide +kernel
theorem dX2_joinCycles_73 : decode cX2_joinCycles 73 = .ok (.iload_n 1, 1) := by decide +kernel
theorem dX2_joinCycles_74 : decode cX2_joinCycles 74 = .ok (.if_icmp .ge 29, 3) := by decide +kernel
theorem dX2_joinCycles_77 : decode cX2_joinCycles 77 = .ok (.aload_n 0, 1) := by decide +kernel
theorem dX2_joinCycles_78 : decode cX2_joinCycles 78 = .ok (.iload_n 3, 1) := by decide +kernel
theorem dX2_joinCycles_79 : decode cX2_joinCycles 79 = .ok (.iload_n 3, 1) := by decide +kernel
theorem dX2_joinCycles_80 : decode cX2_joinCycles 80 = .ok (.aload_n 0, 1) := by decide +kernel
theorem dX2_joinCycles_81 : decode cX2_joinCycles 81 = .ok (.getfield 33, 3) := by decide +kernel
theorem dX2_joinCycles_84 : decode cX2_joinCycles 84 = .ok (.getfield 81, 3) := by decide +kernel
theorem dX2_joinCycles_87 : decode cX2_joinCycles 87 = .ok (.iadd, 1) := by decide +kernel
theorem dX2_joinCycles_88 : decode cX2_joinCycles 88 = .ok (.invokevirtual 121, 3) := by decide +kernel
theorem dX2_joinCycles_91 : decode cX2_joinCycles 91 = .ok (.ifCond .eq 6, 3) := by decide +kernel
theorem dX2_joinCycles_94 : decode cX2_joinCycles 94 = .ok (.iinc 2 1, 3) := by decide +kernel
theorem dX2_joinCycles_97 : decode cX2_joinCycles 97 = .ok (.iinc 3 1, 3) := by decide +kernel
theorem dX2_joinCycles_100 : decode cX2_joinCycles 100 = .ok (.goto (-47), 3) := by decide +kernel
theorem dX2_joinCycles_103 : decode cX2_joinCycles 103 = .ok (.aload_n 0, 1) := by decide +kernel
theorem dX2_joinCycles_104 : decode cX2_joinCycles 104 = .ok (.dup, 1) := by decide +kernel
theorem dX2_joinCycles_105 : decode cX2_joinCycles 105 = .ok (.getfield 93, 3) := by decide +kernel
theorem dX2_joinCycles_108 : decode cX2_joinCycles 108 = .ok (.iload_n 2, 1) := by decide +kernel
theorem dX2_joinCycles_109 : decode cX2_joinCycles 109 = .ok (.isub, 1) := by decide +kernel
theorem dX2_joinCycles_110 : decode cX2_joinCycles 110 = .ok (.putfield 93, 3) := by decide +kernel
theorem dX2_joinCycles_113 : decode cX2_joinCycles 113 = .ok (.iload_n 2, 1) := by decide +kernel
theorem dX2_joinCycles_114 : decode cX2_joinCycles 114 = .ok (.ireturn, 1) := by decide +kernel
theorem dX2_joinAt_0 : decode cX2_joinAt 0 = .ok (.aload_n 0, 1) := by decide +kernel
theorem dX2_joinAt_1 : decode cX2_joinAt 1 = .ok (.getfield 30, 3) := by decide +kernel
theorem dX2_joinAt_4 : decode cX2_joinAt 4 = .ok (.aload_n 0, 1) := by decide +kernel
theorem dX2_joinAt_5 : decode cX2_joinAt 5 = .ok (.getfield 24, 3) := by decide +kernel
theorem dX2_joinAt_8 : decode cX2_joinAt 8 = .ok (.iload_n 1, 1) := by decide +kernel
theorem dX2_joinAt_9 : decode cX2_joinAt 9 = .ok (.iaload, 1) := by decide +kernel
theorem dX2_joinAt_10 : decode cX2_joinAt 10 = .ok (.iaload, 1) := by decide +kernel
theorem dX2_joinAt_11 : decode cX2_joinAt 11 = .ok (.istore_n 3, 1) := by decide +kernel
theorem dX2_joinAt_12 : decode cX2_joinAt 12 = .ok (.aload_n 0, 1) := by decide +kernel
theorem dX2_joinAt_13 : decode cX2_joinAt 13 = .ok (.getfield 30, 3) := by decide +kernel
theorem dX2_joinAt_16 : decode cX2_joinAt 16 = .ok (.aload_n 0, 1) := by decide +kernel
theorem dX2_joinAt_17 : decode cX2_joinAt 17 = .ok (.getfield 24, 3) := by decide +kernel
theorem dX2_joinAt_20 : decode cX2_joinAt 20 = .ok (.iload_n 2, 1) := by decide +kernel
theorem dX2_joinAt_21 : decode cX2_joinAt 21 = .ok (.iaload, 1) := by decide +kernel
theorem dX2_joinAt_22 : decode cX2_joinAt 22 = .ok (.iaload, 1) := by decide +kernel
theorem dX2_joinAt_23 : decode cX2_joinAt 23 = .ok (.istore 4, 2) := by decide +kernel
theorem dX2_joinAt_25 : decode cX2_joinAt 25 = .ok (.iload_n 3, 1) := by decide +kernel
theorem dX2_joinAt_26 : decode cX2_joinAt 26 = .ok (.iload 4, 2) := by decide +kernel
theorem dX2_joinAt_28 : decode cX2_joinAt 28 = .ok (.if_icmp .ne 5, 3) := by decide +kernel
theorem dX2_joinAt_31 : decode cX2_joinAt 31 = .ok (.iconst 0, 1) := by decide +kernel
theorem dX2_joinAt_32 : decode cX2_joinAt 32 = .ok (.ireturn, 1) := by decide +kernel
theorem dX2_joinAt_33 : decode cX2_joinAt 33 = .ok (.iconst 0, 1) := by decide +kernel
theorem dX2_joinAt_34 : decode cX2_joinAt 34 = .ok (.istore 5, 2) := by decide +kernel
theorem dX2_joinAt_36 : decode cX2_joinAt 36 = .ok (.iload 5, 2) := by decide +kernel
theorem dX2_joinAt_38 : decode cX2_joinAt 38 = .ok (.aload_n 0, 1) := by decide +kernel
theorem dX2_joinAt_39 : decode cX2_joinAt 39 = .ok (.getfield 93, 3) := by decide +kernel
theorem dX2_joinAt_42 : decode cX2_joinAt 42 = .ok (.if_icmp .ge 29, 3) := by decide +kernel
theorem dX2_joinAt_45 : decode cX2_joinAt 45 = .ok (.aload_n 0, 1) := by decide +kernel
theorem dX2_joinAt_46 : decode cX2_joinAt 46 = .ok (.getfield 30, 3) := by decide +kernel
theorem dX2_joinAt_49 : decode cX2_joinAt 49 = .ok (.iload 5, 2) := by decide +kernel
theorem dX2_joinAt_51 : decode cX2_joinAt 51 = .ok (.iaload, 1) := by decide +kernel
theorem dX2_joinAt_52 : decode cX2_joinAt 52 = .ok (.iload 4, 2) := by decide +kernel
theorem dX2_joinAt_54 : decode cX2_joinAt 54 = .ok (.if_icmp .ne 11, 3) := by decide +kernel
theorem dX2_joinAt_57 : decode cX2_joinAt 57 = .ok (.aload_n 0, 1) := by decide +kernel
theorem dX2_joinAt_58 : decode cX2_joinAt 58 = .ok (.getfield 30, 3) := by decide +kernel
theorem dX2_joinAt_61 : decode cX2_joinAt 61 = .ok (.iload 5, 2) := by decide +kernel
theorem dX2_joinAt_63 : decode cX2_joinAt 63 = .ok (.iload_n 3, 1) := by decide +kernel
theorem dX2_joinAt_64 : decode cX2_joinAt 64 = .ok (.iastore, 1) := by decide +kernel
theorem dX2_joinAt_65 : decode cX2_joinAt 65 = .ok (.iinc 5 1, 3) := by decide +kernel
theorem dX2_joinAt_68 : decode cX2_joinAt 68 = .ok (.goto (-32), 3) := by decide +kernel
theorem dX2_joinAt_71 : decode cX2_joinAt 71 = .ok (.aload_n 0, 1) := by decide +kernel
theorem dX2_joinAt_72 : decode cX2_joinAt 72 = .ok (.iload_n 1, 1) := by decide +kernel
theorem dX2_joinAt_73 : decode cX2_joinAt 73 = .ok (.iload_n 2, 1) := by decide +kernel
theorem dX2_joinAt_74 : decode cX2_joinAt 74 = .ok (.invokevirtual 107, 3) := by decide +kernel
theorem dX2_joinAt_77 : decode cX2_joinAt 77 = .ok (.aload_n 0, 1) := by decide +kernel
theorem dX2_joinAt_78 : decode cX2_joinAt 78 = .ok (.iload_n 1, 1) := by decide +kernel
theorem dX2_joinAt_79 : decode cX2_joinAt 79 = .ok (.iload_n 2, 1) := by decide +kernel
theorem dX2_joinAt_80 : decode cX2_joinAt 80 = .ok (.invokevirtual 110, 3) := by decide +kernel
theorem dX2_joinAt_83 : decode cX2_joinAt 83 = .ok (.iconst 1, 1) := by decide +kernel
theorem dX2_joinAt_84 : decode cX2_joinAt 84 = .ok (.ireturn, 1) := by decide +kernel
theorem dX3_init_0 : decode cX3_init 0 = .ok (.aload_n 0, 1) := by decide +kernel
theorem dX3_init_1 : decode cX3_init 1 = .ok (.invokespecial 3, 3) := by decide +kernel
theorem dX3_init_4 : decode cX3_init 4 = .ok (.aload_n 0, 1) := by decide +kernel
theorem dX3_init_5 : decode cX3_init 5 = .ok (.bipush 14, 2) := by decide +kernel
theorem dX3_init_7 : decode cX3_init 7 = .ok (.newarray .int, 2) := by decide +kernel
theorem dX3_init_9 : decode cX3_init 9 = .ok (.putfield 9, 3) := by decide +kernel
theorem dX3_init_12 : decode cX3_init 12 = .ok (.aload_n 0, 1) := by decide +kernel
theorem dX3_init_13 : decode cX3_init 13 = .ok (.bipush 15, 2) := by decide +kernel
theorem dX3_init_15 : decode cX3_init 15 = .ok (.newarray .int, 2) := by decide +kernel
theorem dX3_init_17 : decode cX3_init 17 = .ok (.putfield 15, 3) := by decide +kernel
theorem dX3_init_20 : decode cX3_init 20 = .ok (.aload_n 0, 1) := by decide +kernel
theorem dX3_init_21 : decode cX3_init 21 = .ok (.iconst 5, 1) := by decide +kernel
theorem dX3_init_22 : decode cX3_init 22 = .ok (.newarray .int, 2) := by decide +kernel
theorem dX3_init_24 : decode cX3_init 24 = .ok (.putfield 18, 3) := by decide +kernel
theorem dX3_init_27 : decode cX3_init 27 = .ok (.aload_n 0, 1) := by decide +kernel
theorem dX3_init_28 : decode cX3_init 28 = .ok (.aload_n 1, 1) := by decide +kernel
theorem dX3_init_29 : decode cX3_init 29 = .ok (.putfield 21, 3) := by decide +kernel
theorem dX3_init_32 : decode cX3_init 32 = .ok (.return_, 1) := by decide +kernel
theorem dX3_ringsUpTo_0 : decode cX3_ringsUpTo 0 = .ok (.iload_n 1, 1) := by decide +kernel
theorem dX3_ringsUpTo_1 : decode cX3_ringsUpTo 1 = .ok (.ifCond .ge 5, 3) := by decide +kernel
theorem dX3_ringsUpTo_4 : decode cX3_ringsUpTo 4 = .ok (.iconst 0, 1) := by decide +kernel
theorem dX3_ringsUpTo_5 : decode cX3_ringsUpTo 5 = .ok (.ireturn, 1) := by decide +kernel
theorem dX3_ringsUpTo_6 : decode cX3_ringsUpTo 6 = .ok (.iconst 0, 1) := by decide +kernel
theorem dX3_ringsUpTo_7 : decode cX3_ringsUpTo 7 = .ok (.istore_n 2, 1) := by decide +kernel
theorem dX3_ringsUpTo_8 : decode cX3_ringsUpTo 8 = .ok (.iconst 1, 1) := by decide +kernel
theorem dX3_ringsUpTo_9 : decode cX3_ringsUpTo 9 = .ok (.istore_n 3, 1) := by decide +kernel
theorem dX3_ringsUpTo_10 : decode cX3_ringsUpTo 10 = .ok (.iload_n 3, 1) := by decide +kernel
theorem dX3_ringsUpTo_11 : decode cX3_ringsUpTo 11 = .ok (.aload_n 0, 1) := by decide +kernel
theorem dX3_ringsUpTo_12 : decode cX3_ringsUpTo 12 = .ok (.getfield 21, 3) := by decide +kernel
theorem dX3_ringsUpTo_15 : decode cX3_ringsUpTo 15 = .ok (.getfield 25, 3) := by decide +kernel
theorem dX3_ringsUpTo_18 : decode cX3_ringsUpTo 18 = .ok (.if_icmp .gt 49, 3) := by decide +kernel
theorem dX3_ringsUpTo_21 : decode cX3_ringsUpTo 21 = .ok (.aload_n 0, 1) := by decide +kernel
theorem dX3_ringsUpTo_22 : decode cX3_ringsUpTo 22 = .ok (.getfield 21, 3) := by decide +kernel
theorem dX3_ringsUpTo_25 : decode cX3_ringsUpTo 25 = .ok (.getfield 25, 3) := by decide +kernel
theorem dX3_ringsUpTo_28 : decode cX3_ringsUpTo 28 = .ok (.iload_n 3, 1) := by decide +kernel
theorem dX3_ringsUpTo_29 : decode cX3_ringsUpTo 29 = .ok (.irem, 1) := by decide +kernel
theorem dX3_ringsUpTo_30 : decode cX3_ringsUpTo 30 = .ok (.ifCond .ne 31, 3) := by decide +kernel
theorem dX3_ringsUpTo_33 : decode cX3_ringsUpTo 33 = .ok (.iload_n 2, 1) := by decide +kernel
theorem dX3_ringsUpTo_34 : decode cX3_ringsUpTo 34 = .ok (.getstatic 31, 3) := by decide +kernel
theorem dX3_ringsUpTo_37 : decode cX3_ringsUpTo 37 = .ok (.aload_n 0, 1) := by decide +kernel
theorem dX3_ringsUpTo_38 : decode cX3_ringsUpTo 38 = .ok (.getfield 21, 3) := by decide +kernel
theorem dX3_ringsUpTo_41 : decode cX3_ringsUpTo 41 = .ok (.getfield 25, 3) := by decide +kernel
theorem dX3_ringsUpTo_44 : decode cX3_ringsUpTo 44 = .ok (.iload_n 3, 1) := by decide +kernel
theorem dX3_ringsUpTo_45 : decode cX3_ringsUpTo 45 = .ok (.idiv, 1) := by decide +kernel
theorem dX3_ringsUpTo_46 : decode cX3_ringsUpTo 46 = .ok (.iaload, 1) := by decide +kernel
theorem dX3_ringsUpTo_47 : decode cX3_ringsUpTo 47 = .ok (.aload_n 0, 1) := by decide +kernel
theorem dX3_ringsUpTo_48 : decode cX3_ringsUpTo 48 = .ok (.iload_n 3, 1) := by decide +kernel
theorem dX3_ringsUpTo_49 : decode cX3_ringsUpTo 49 = .ok (.aload_n 0, 1) := by decide +kernel
theorem dX3_ringsUpTo_50 : decode cX3_ringsUpTo 50 = .ok (.iload_n 3, 1) := by decide +kernel
theorem dX3_ringsUpTo_51 : decode cX3_ringsUpTo 51 = .ok (.iload_n 1, 1) := by decide +kernel
theorem dX3_ringsUpTo_52 : decode cX3_ringsUpTo 52 = .ok (.invokevirtual 34, 3) := by decide +kernel
theorem dX3_ringsUpTo_55 : decode cX3_ringsUpTo 55 = .ok (.invokevirtual 38, 3) := by decide +kernel
theorem dX3_ringsUpTo_58 : decode cX3_ringsUpTo 58 = .ok (.imul, 1) := by decide +kernel
theorem dX3_ringsUpTo_59 : decode cX3_ringsUpTo 59 = .ok (.iadd, 1) := by decide +kernel
theorem dX3_ringsUpTo_60 : decode cX3_ringsUpTo 60 = .ok (.istore_n 2, 1) := by decide +kernel
theorem dX3_ringsUpTo_61 : decode cX3_ringsUpTo 61 = .ok (.iinc 3 1, 3) := by decide +kernel
theorem dX3_ringsUpTo_64 : decode cX3_ringsUpTo 64 = .ok (.goto (-54), 3) := by decide +kernel
theorem dX3_ringsUpTo_67 : decode cX3_ringsUpTo 67 = .ok (.iload_n 2, 1) := by decide +kernel
theorem dX3_ringsUpTo_68 : decode cX3_ringsUpTo 68 = .ok (.aload_n 0, 1) := by decide +kernel
theorem dX3_ringsUpTo_69 : decode cX3_ringsUpTo 69 = .ok (.getfield 21, 3) := by decide +kernel
theorem dX3_ringsUpTo_72 : decode cX3_ringsUpTo 72 = .ok (.getfield 25, 3) := by decide +kernel
theorem dX3_ringsUpTo_75 : decode cX3_ringsUpTo 75 = .ok (.idiv, 1) := by decide +kernel
theorem dX3_ringsUpTo_76 : decode cX3_ringsUpTo 76 = .ok (.ireturn, 1) := by decide +kernel
theorem dX3_greatestRepeated_0 : decode cX3_greatestRepeated 0 = .ok (.iload_n 2, 1) := by decide +kernel
theorem dX3_greatestRepeated_1 : decode cX3_greatestRepeated 1 = .ok (.aload_n 0, 1) := by decide +kernel
theorem dX3_greatestRepeated_2 : decode cX3_greatestRepeated 2 = .ok (.getfield 21, 3) := by decide +kernel
theorem dX3_greatestRepeated_5 : decode cX3_greatestRepeated 5 = .ok (.getfield 41, 3) := by decide +kernel
theorem dX3_greatestRepeated_8 : decode cX3_greatestRepeated 8 = .ok (.aload_n 0, 1) := by decide +kernel
theorem dX3_greatestRepeated_9 : decode cX3_greatestRepeated 9 = .ok (.getfield 21, 3) := by decide +kernel
theorem dX3_greatestRepeated_12 : decode cX3_greatestRepeated 12 = .ok (.getfield 25, 3) := by decide +kernel
theorem dX3_greatestRepeated_15 : decode cX3_greatestRepeated 15 = .ok (.iload_n 1, 1) := by decide +kernel
theorem dX3_greatestRepeated_16 : decode cX3_greatestRepeated 16 = .ok (.isub, 1) := by decide +kernel
theorem dX3_greatestRepeated_17 : decode cX3_greatestRepeated 17 = .ok (.iaload, 1) := by decide +kernel
theorem dX3_greatestRepeated_18 : decode cX3_greatestRepeated 18 = .ok (.idiv, 1) := by decide +kernel
theorem dX3_greatestRepeated_19 : decode cX3_greatestRepeated 19 = .ok (.istore_n 3, 1) := by decide +kernel
theorem dX3_greatestRepeated_20 : decode cX3_greatestRepeated 20 = .ok (.iconst 0, 1) := by decide +kernel
theorem dX3_greatestRepeated_21 : decode cX3_greatestRepeated 21 = .ok (.istore 4, 2) := by decide +kernel
theorem dX3_greatestRepeated_23 : decode cX3_greatestRepeated 23 = .ok (.iconst 0, 1) := by decide +kernel
theorem dX3_greatestRepeated_24 : decode cX3_greatestRepeated 24 = .ok (.istore 5, 2) := by decide +kernel
theorem dX3_greatestRepeated_26 : decode cX3_greatestRepeated 26 = .ok (.iload 5, 2) := by decide +kernel
theorem dX3_greatestRepeated_28 : decode cX3_greatestRepeated 28 = .ok (.aload_n 0, 1) := by decide +kernel
theorem dX3_greatestRepeated_29 : decode cX3_greatestRepeated 29 = .ok (.getfield 21, 3) := by decide +kernel
theorem dX3_greatestRepeated_32 : decode cX3_greatestRepeated 32 = .ok (.getfield 25, 3) := by decide +kernel
theorem dX3_greatestRepeated_35 : decode cX3_greatestRepeated 35 = .ok (.if_icmp .ge 28, 3) := by decide +kernel
theorem dX3_greatestRepeated_38 : decode cX3_greatestRepeated 38 = .ok (.iload 4, 2) := by decide +kernel
theorem dX3_greatestRepeated_40 : decode cX3_greatestRepeated 40 = .ok (.aload_n 0, 1) := by decide +kernel
theorem dX3_greatestRepeated_41 : decode cX3_greatestRepeated 41 = .ok (.getfield 21, 3) := by decide +kernel
theorem dX3_greatestRepeated_44 : decode cX3_greatestRepeated 44 = .ok (.getfield 41, 3) := by decide +kernel
theorem dX3_greatestRepeated_47 : decode cX3_greatestRepeated 47 = .ok (.iload_n 1, 1) := by decide +kernel
theorem dX3_greatestRepeated_48 : decode cX3_greatestRepeated 48 = .ok (.iaload, 1) := by decide +kernel
theorem dX3_greatestRepeated_49 : decode cX3_greatestRepeated 49 = .ok (.imul, 1) := by decide +kernel
theorem dX3_greatestRepeated_50 : decode cX3_greatestRepeated 50 = .ok (.iload_n 3, 1) := by decide +kernel
theorem dX3_greatestRepeated_51 : decode cX3_greatestRepeated 51 = .ok (.iadd, 1) := by decide +kernel
theorem dX3_greatestRepeated_52 : decode cX3_greatestRepeated 52 = .ok (.istore 4, 2) := by decide +kernel
theorem dX3_greatestRepeated_54 : decode cX3_greatestRepeated 54 = .ok (.iload 5, 2) := by decide +kernel
theorem dX3_greatestRepeated_56 : decode cX3_greatestRepeated 56 = .ok (.iload_n 1, 1) := by decide +kernel
theorem dX3_greatestRepeated_57 : decode cX3_greatestRepeated 57 = .ok (.iadd, 1) := by decide +kernel
theorem dX3_greatestRepeated_58 : decode cX3_greatestRepeated 58 = .ok (.istore 5, 2) := by decide +kernel
theorem dX3_greatestRepeated_60 : decode cX3_greatestRepeated 60 = .ok (.goto (-34), 3) := by decide +kernel
theorem dX3_greatestRepeated_63 : decode cX3_greatestRepeated 63 = .ok (.iload 4, 2) := by decide +kernel
theorem dX3_greatestRepeated_65 : decode cX3_greatestRepeated 65 = .ok (.iload_n 2, 1) := by decide +kernel
theorem dX3_greatestRepeated_66 : decode cX3_greatestRepeated 66 = .ok (.if_icmp .gt 7, 3) := by decide +kernel
theorem dX3_greatestRepeated_69 : decode cX3_greatestRepeated 69 = .ok (.iload_n 3, 1) := by decide +kernel
theorem dX3_greatestRepeated_70 : decode cX3_greatestRepeated 70 = .ok (.goto 6, 3) := by decide +kernel
theorem dX3_greatestRepeated_73 : decode cX3_greatestRepeated 73 = .ok (.iload_n 3, 1) := by decide +kernel
theorem dX3_greatestRepeated_74 : decode cX3_greatestRepeated 74 = .ok (.iconst 1, 1) := by decide +kernel
theorem dX3_greatestRepeated_75 : decode cX3_greatestRepeated 75 = .ok (.isub, 1) := by decide +kernel
theorem dX3_greatestRepeated_76 : decode cX3_greatestRepeated 76 = .ok (.ireturn, 1) := by decide +kernel
theorem dX3_leastOfRing_0 : decode cX3_leastOfRing 0 = .ok (.iconst 0, 1) := by decide +kernel
theorem dX3_leastOfRing_1 : decode cX3_leastOfRing 1 = .ok (.istore_n 2, 1) := by decide +kernel
theorem dX3_leastOfRing_2 : decode cX3_leastOfRing 2 = .ok (.aload_n 0, 1) := by decide +kernel
theorem dX3_leastOfRing_3 : decode cX3_leastOfRing 3 = .ok (.getfield 21, 3) := by decide +kernel
theorem dX3_leastOfRing_6 : decode cX3_leastOfRing 6 = .ok (.getfield 44, 3) := by decide +kernel
theorem dX3_leastOfRing_9 : decode cX3_leastOfRing 9 = .ok (.iconst 1, 1) := by decide +kernel
theorem dX3_leastOfRing_10 : decode cX3_leastOfRing 10 = .ok (.isub, 1) := by decide +kernel
theorem dX3_leastOfRing_11 : decode cX3_leastOfRing 11 = .ok (.istore_n 3, 1) := by decide +kernel
theorem dX3_leastOfRing_12 : decode cX3_leastOfRing 12 = .ok (.iconst 0, 1) := by decide +kernel
theorem dX3_leastOfRing_13 : decode cX3_leastOfRing 13 = .ok (.istore 4, 2) := by decide +kernel
theorem dX3_leastOfRing_15 : decode cX3_leastOfRing 15 = .ok (.iload 4, 2) := by decide +kernel
theorem dX3_leastOfRing_17 : decode cX3_leastOfRing 17 = .ok (.sipush 20000, 3) := by decide +kernel
theorem dX3_leastOfRing_20 : decode cX3_leastOfRing 20 = .ok (.if_icmp .ge 42, 3) := by decide +kernel
theorem dX3_leastOfRing_23 : decode cX3_leastOfRing 23 = .ok (.iload_n 2, 1) := by decide +kernel
theorem dX3_leastOfRing_24 : decode cX3_leastOfRing 24 = .ok (.iload_n 3, 1) := by decide +kernel
theorem dX3_leastOfRing_25 : decode cX3_leastOfRing 25 = .ok (.if_icmp .ge 37, 3) := by decide +kernel
theorem dX3_leastOfRing_28 : decode cX3_leastOfRing 28 = .ok (.iload_n 2, 1) := by decide +kernel
theorem dX3_leastOfRing_29 : decode cX3_leastOfRing 29 = .ok (.iload_n 3, 1) := by decide +kernel
theorem dX3_leastOfRing_30 : decode cX3_leastOfRing 30 = .ok (.iadd, 1) := by decide +kernel
theorem dX3_leastOfRing_31 : decode cX3_leastOfRing 31 = .ok (.iconst 2, 1) := by decide +kernel
theorem dX3_leastOfRing_32 : decode cX3_leastOfRing 32 = .ok (.idiv, 1) := by decide +kernel
theorem dX3_leastOfRing_33 : decode cX3_leastOfRing 33 = .ok (.istore 5, 2) := by decide +kernel
theorem dX3_leastOfRing_35 : decode cX3_leastOfRing 35 = .ok (.aload_n 0, 1) := by decide +kernel
theorem dX3_leastOfRing_36 : decode cX3_leastOfRing 36 = .ok (.iload 5, 2) := by decide +kernel
theorem dX3_leastOfRing_38 : decode cX3_leastOfRing 38 = .ok (.invokevirtual 47, 3) := by decide +kernel
theorem dX3_leastOfRing_41 : decode cX3_leastOfRing 41 = .ok (.iload_n 1, 1) := by decide +kernel
theorem dX3_leastOfRing_42 : decode cX3_leastOfRing 42 = .ok (.if_icmp .le 9, 3) := by decide +kernel
theorem dX3_leastOfRing_45 : decode cX3_leastOfRing 45 = .ok (.iload 5, 2) := by decide +kernel
theorem dX3_leastOfRing_47 : decode cX3_leastOfRing 47 = .ok (.istore_n 3, 1) := by decide +kernel
theorem dX3_leastOfRing_48 : decode cX3_leastOfRing 48 = .ok (.goto 8, 3) := by decide +kernel
theorem dX3_leastOfRing_51 : decode cX3_leastOfRing 51 = .ok (.iload 5, 2) := by decide +kernel
theorem dX3_leastOfRing_53 : decode cX3_leastOfRing 53 = .ok (.iconst 1, 1) := by decide +kernel
theorem dX3_leastOfRing_54 : decode cX3_leastOfRing 54 = .ok (.iadd, 1) := by decide +kernel
theorem dX3_leastOfRing_55 : decode cX3_leastOfRing 55 = .ok (.istore_n 2, 1) := by decide +kernel
theorem dX3_leastOfRing_56 : decode cX3_leastOfRing 56 = .ok (.iinc 4 1, 3) := by decide +kernel
theorem dX3_leastOfRing_59 : decode cX3_leastOfRing 59 = .ok (.goto (-44), 3) := by decide +kernel
theorem dX3_leastOfRing_62 : decode cX3_leastOfRing 62 = .ok (.iload_n 2, 1) := by decide +kernel
theorem dX3_leastOfRing_63 : decode cX3_leastOfRing 63 = .ok (.ireturn, 1) := by decide +kernel
theorem dX3_wordsUpTo_0 : decode cX3_wordsUpTo 0 = .ok (.iload_n 2, 1) := by decide +kernel
theorem dX3_wordsUpTo_1 : decode cX3_wordsUpTo 1 = .ok (.ifCond .ge 5, 3) := by decide +kernel
theorem dX3_wordsUpTo_4 : decode cX3_wordsUpTo 4 = .ok (.iconst 0, 1) := by decide +kernel
theorem dX3_wordsUpTo_5 : decode cX3_wordsUpTo 5 = .ok (.ireturn, 1) := by decide +kernel
theorem dX3_wordsUpTo_6 : decode cX3_wordsUpTo 6 = .ok (.iload_n 2, 1) := by decide +kernel
theorem dX3_wordsUpTo_7 : decode cX3_wordsUpTo 7 = .ok (.istore_n 3, 1) := by decide +kernel
theorem dX3_wordsUpTo_8 : decode cX3_wordsUpTo 8 = .ok (.iload_n 1, 1) := by decide +kernel
theorem dX3_wordsUpTo_9 : decode cX3_wordsUpTo 9 = .ok (.iconst 1, 1) := by decide +kernel
theorem dX3_wordsUpTo_10 : decode cX3_wordsUpTo 10 = .ok (.isub, 1) := by decide +kernel
theorem dX3_wordsUpTo_11 : decode cX3_wordsUpTo 11 = .ok (.istore 4, 2) := by decide +kernel
theorem dX3_wordsUpTo_13 : decode cX3_wordsUpTo 13 = .ok (.iload 4, 2) := by decide +kernel
theorem dX3_wordsUpTo_15 : decode cX3_wordsUpTo 15 = .ok (.ifCond .lt 35, 3) := by decide +kernel
theorem dX3_wordsUpTo_18 : decode cX3_wordsUpTo 18 = .ok (.aload_n 0, 1) := by decide +kernel
theorem dX3_wordsUpTo_19 : decode cX3_wordsUpTo 19 = .ok (.getfield 9, 3) := by decide +kernel
theorem dX3_wordsUpTo_22 : decode cX3_wordsUpTo 22 = .ok (.iload 4, 2) := by decide +kernel
theorem dX3_wordsUpTo_24 : decode cX3_wordsUpTo 24 = .ok (.iload_n 3, 1) := by decide +kernel
theorem dX3_wordsUpTo_25 : decode cX3_wordsUpTo 25 = .ok (.aload_n 0, 1) := by decide +kernel
theorem dX3_wordsUpTo_26 : decode cX3_wordsUpTo 26 = .ok (.getfield 21, 3) := by decide +kernel
theorem dX3_wordsUpTo_29 : decode cX3_wordsUpTo 29 = .ok (.getfield 51, 3) := by decide +kernel
theorem dX3_wordsUpTo_32 : decode cX3_wordsUpTo 32 = .ok (.irem, 1) := by decide +kernel
theorem dX3_wordsUpTo_33 : decode cX3_wordsUpTo 33 = .ok (.iastore, 1) := by decide +kernel
theorem dX3_wordsUpTo_34 : decode cX3_wordsUpTo 34 = .ok (.iload_n 3, 1) := by decide +kernel
theorem dX3_wordsUpTo_35 : decode cX3_wordsUpTo 35 = .ok (.aload_n 0, 1) := by decide +kernel
theorem dX3_wordsUpTo_36 : decode cX3_wordsUpTo 36 = .ok (.getfield 21, 3) := by decide +kernel
theorem dX3_wordsUpTo_39 : decode cX3_wordsUpTo 39 = .ok (.getfield 51, 3) := by decide +kernel
theorem dX3_wordsUpTo_42 : decode cX3_wordsUpTo 42 = .ok (.idiv, 1) := by decide +kernel
theorem dX3_wordsUpTo_43 : decode cX3_wordsUpTo 43 = .ok (.istore_n 3, 1) := by decide +kernel
theorem dX3_wordsUpTo_44 : decode cX3_wordsUpTo 44 = .ok (.iinc 4 (-1), 3) := by decide +kernel
theorem dX3_wordsUpTo_47 : decode cX3_wordsUpTo 47 = .ok (.goto (-34), 3) := by decide +kernel
theorem dX3_wordsUpTo_50 : decode cX3_wordsUpTo 50 = .ok (.aload_n 0, 1) := by decide +kernel
theorem dX3_wordsUpTo_51 : decode cX3_wordsUpTo 51 = .ok (.iload_n 1, 1) := by decide +kernel
theorem dX3_wordsUpTo_52 : decode cX3_wordsUpTo 52 = .ok (.invokevirtual 54, 3) := by decide +kernel
theorem dX3_wordsUpTo_55 : decode cX3_wordsUpTo 55 = .ok (.aload_n 0, 1) := by decide +kernel
theorem dX3_wordsUpTo_56 : decode cX3_wordsUpTo 56 = .ok (.getfield 21, 3) := by decide +kernel
theorem dX3_wordsUpTo_59 : decode cX3_wordsUpTo 59 = .ok (.getfield 41, 3) := by decide +kernel
theorem dX3_wordsUpTo_62 : decode cX3_wordsUpTo 62 = .ok (.iload_n 1, 1) := by decide +kernel
theorem dX3_wordsUpTo_63 : decode cX3_wordsUpTo 63 = .ok (.iaload, 1) := by decide +kernel
theorem dX3_wordsUpTo_64 : decode cX3_wordsUpTo 64 = .ok (.aload_n 0, 1) := by decide +kernel
theorem dX3_wordsUpTo_65 : decode cX3_wordsUpTo 65 = .ok (.iload_n 1, 1) := by decide +kernel
theorem dX3_wordsUpTo_66 : decode cX3_wordsUpTo 66 = .ok (.invokevirtual 58, 3) := by decide +kernel
theorem dX3_wordsUpTo_69 : decode cX3_wordsUpTo 69 = .ok (.isub, 1) := by decide +kernel
theorem dX3_wordsUpTo_70 : decode cX3_wordsUpTo 70 = .ok (.ireturn, 1) := by decide +kernel
theorem dX3_lowerToBeginning_0 : decode cX3_lowerToBeginning 0 = .ok (.iconst 0, 1) := by decide +kernel
theorem dX3_lowerToBeginning_1 : decode cX3_lowerToBeginning 1 = .ok (.istore_n 2, 1) := by decide +kernel
theorem dX3_lowerToBeginning_2 : decode cX3_lowerToBeginning 2 = .ok (.iload_n 2, 1) := by decide +kernel
theorem dX3_lowerToBeginning_3 : decode cX3_lowerToBeginning 3 = .ok (.iload_n 1, 1) := by decide +kernel
theorem dX3_lowerToBeginning_4 : decode cX3_lowerToBeginning 4 = .ok (.if_icmp .ge 79, 3) := by decide +kernel
theorem dX3_lowerToBeginning_7 : decode cX3_lowerToBeginning 7 = .ok (.aload_n 0, 1) := by decide +kernel
theorem dX3_lowerToBeginning_8 : decode cX3_lowerToBeginning 8 = .ok (.iload_n 1, 1) := by decide +kernel
theorem dX3_lowerToBeginning_9 : decode cX3_lowerToBeginning 9 = .ok (.invokevirtual 61, 3) := by decide +kernel
theorem dX3_lowerToBeginning_12 : decode cX3_lowerToBeginning 12 = .ok (.istore_n 3, 1) := by decide +kernel
theorem dX3_lowerToBeginning_13 : decode cX3_lowerToBeginning 13 = .ok (.iload_n 3, 1) := by decide +kernel
theorem dX3_lowerToBeginning_14 : decode cX3_lowerToBeginning 14 = .ok (.iload_n 1, 1) := by decide +kernel
theorem dX3_lowerToBeginning_15 : decode cX3_lowerToBeginning 15 = .ok (.if_icmp .ne 4, 3) := by decide +kernel
theorem dX3_lowerToBeginning_18 : decode cX3_lowerToBeginning 18 = .ok (.return_, 1) := by decide +kernel
theorem dX3_lowerToBeginning_19 : decode cX3_lowerToBeginning 19 = .ok (.iload_n 3, 1) := by decide +kernel
theorem dX3_lowerToBeginning_20 : decode cX3_lowerToBeginning 20 = .ok (.iconst 1, 1) := by decide +kernel
theorem dX3_lowerToBeginning_21 : decode cX3_lowerToBeginning 21 = .ok (.isub, 1) := by decide +kernel
theorem dX3_lowerToBeginning_22 : decode cX3_lowerToBeginning 22 = .ok (.istore 4, 2) := by decide +kernel
theorem dX3_lowerToBeginning_24 : decode cX3_lowerToBeginning 24 = .ok (.iload 4, 2) := by decide +kernel
theorem dX3_lowerToBeginning_26 : decode cX3_lowerToBeginning 26 = .ok (.ifCond .le 19, 3) := by decide +kernel
theorem dX3_lowerToBeginning_29 : decode cX3_lowerToBeginning 29 = .ok (.aload_n 0, 1) := by decide +kernel
theorem dX3_lowerToBeginning_30 : decode cX3_lowerToBeginning 30 = .ok (.getfield 9, 3) := by decide +kernel
theorem dX3_lowerToBeginning_33 : decode cX3_lowerToBeginning 33 = .ok (.iload 4, 2) := by decide +kernel
theorem dX3_lowerToBeginning_35 : decode cX3_lowerToBeginning 35 = .ok (.iaload, 1) := by decide +kernel
theorem dX3_lowerToBeginning_36 : decode cX3_lowerToBeginning 36 = .ok (.ifCond .ne 9, 3) := by decide +kernel
theorem dX3_lowerToBeginning_39 : decode cX3_lowerToBeginning 39 = .ok (.iinc 4 (-1), 3) := by decide +kernel
theorem dX3_lowerToBeginning_42 : decode cX3_lowerToBeginning 42 = .ok (.goto (-18), 3) := by decide +kernel
theorem dX3_lowerToBeginning_45 : decode cX3_lowerToBeginning 45 = .ok (.aload_n 0, 1) := by decide +kernel
theorem dX3_lowerToBeginning_46 : decode cX3_lowerToBeginning 46 = .ok (.getfield 9, 3) := by decide +kernel
theorem dX3_lowerToBeginning_49 : decode cX3_lowerToBeginning 49 = .ok (.iload 4, 2) := by decide +kernel
theorem dX3_lowerToBeginning_51 : decode cX3_lowerToBeginning 51 = .ok (.dup2, 1) := by decide +kernel
theorem dX3_lowerToBeginning_52 : decode cX3_lowerToBeginning 52 = .ok (.iaload, 1) := by decide +kernel
theorem dX3_lowerToBeginning_53 : decode cX3_lowerToBeginning 53 = .ok (.iconst 1, 1) := by decide +kernel
theorem dX3_lowerToBeginning_54 : decode cX3_lowerToBeginning 54 = .ok (.isub, 1) := by decide +kernel
theorem dX3_lowerToBeginning_55 : decode cX3_lowerToBeginning 55 = .ok (.iastore, 1) := by decide +kernel
theorem dX3_lowerToBeginning_56 : decode cX3_lowerToBeginning 56 = .ok (.aload_n 0, 1) := by decide +kernel
theorem dX3_lowerToBeginning_57 : decode cX3_lowerToBeginning 57 = .ok (.getfield 9, 3) := by decide +kernel
theorem dX3_lowerToBeginning_60 : decode cX3_lowerToBeginning 60 = .ok (.iload 4, 2) := by decide +kernel
theorem dX3_lowerToBeginning_62 : decode cX3_lowerToBeginning 62 = .ok (.iconst 1, 1) := by decide +kernel
theorem dX3_lowerToBeginning_63 : decode cX3_lowerToBeginning 63 = .ok (.iadd, 1) := by decide +kernel
theorem dX3_lowerToBeginning_64 : decode cX3_lowerToBeginning 64 = .ok (.iload_n 1, 1) := by decide +kernel
theorem dX3_lowerToBeginning_65 : decode cX3_lowerToBeginning 65 = .ok (.aload_n 0, 1) := by decide +kernel
theorem dX3_lowerToBeginning_66 : decode cX3_lowerToBeginning 66 = .ok (.getfield 21, 3) := by decide +kernel
theorem dX3_lowerToBeginning_69 : decode cX3_lowerToBeginning 69 = .ok (.getfield 51, 3) := by decide +kernel
theorem dX3_lowerToBeginning_72 : decode cX3_lowerToBeginning 72 = .ok (.iconst 1, 1) := by decide +kernel
theorem dX3_lowerToBeginning_73 : decode cX3_lowerToBeginning 73 = .ok (.isub, 1) := by decide +kernel
theorem dX3_lowerToBeginning_74 : decode cX3_lowerToBeginning 74 = .ok (.invokestatic 64, 3) := by decide +kernel
theorem dX3_lowerToBeginning_77 : decode cX3_lowerToBeginning 77 = .ok (.iinc 2 1, 3) := by decide +kernel
theorem dX3_lowerToBeginning_80 : decode cX3_lowerToBeginning 80 = .ok (.goto (-78), 3) := by decide +kernel
theorem dX3_lowerToBeginning_83 : decode cX3_lowerToBeginning 83 = .ok (.return_, 1) := by decide +kernel
theorem dX3_firstFault_0 : decode cX3_firstFault 0 = .ok (.iconst 1, 1) := by decide +kernel
theorem dX3_firstFault_1 : decode cX3_firstFault 1 = .ok (.istore_n 2, 1) := by decide +kernel
theorem dX3_firstFault_2 : decode cX3_firstFault 2 = .ok (.iconst 1, 1) := by decide +kernel
theorem dX3_firstFault_3 : decode cX3_firstFault 3 = .ok (.istore_n 3, 1) := by decide +kernel
theorem dX3_firstFault_4 : decode cX3_firstFault 4 = .ok (.iload_n 3, 1) := by decide +kernel
theorem dX3_firstFault_5 : decode cX3_firstFault 5 = .ok (.iload_n 1, 1) := by decide +kernel
theorem dX3_firstFault_6 : decode cX3_firstFault 6 = .ok (.if_icmp .ge 49, 3) := by decide +kernel
theorem dX3_firstFault_9 : decode cX3_firstFault 9 = .ok (.aload_n 0, 1) := by decide +kernel
theorem dX3_firstFault_10 : decode cX3_firstFault 10 = .ok (.getfield 9, 3) := by decide +kernel
theorem dX3_firstFault_13 : decode cX3_firstFault 13 = .ok (.iload_n 3, 1) := by decide +kernel
theorem dX3_firstFault_14 : decode cX3_firstFault 14 = .ok (.iaload, 1) := by decide +kernel
theorem dX3_firstFault_15 : decode cX3_firstFault 15 = .ok (.aload_n 0, 1) := by decide +kernel
theorem dX3_firstFault_16 : decode cX3_firstFault 16 = .ok (.getfield 9, 3) := by decide +kernel
theorem dX3_firstFault_19 : decode cX3_firstFault 19 = .ok (.iload_n 3, 1) := by decide +kernel
theorem dX3_firstFault_20 : decode cX3_firstFault 20 = .ok (.iload_n 2, 1) := by decide +kernel
theorem dX3_firstFault_21 : decode cX3_firstFault 21 = .ok (.isub, 1) := by decide +kernel
theorem dX3_firstFault_22 : decode cX3_firstFault 22 = .ok (.iaload, 1) := by decide +kernel
theorem dX3_firstFault_23 : decode cX3_firstFault 23 = .ok (.if_icmp .ge 5, 3) := by decide +kernel
theorem dX3_firstFault_26 : decode cX3_firstFault 26 = .ok (.iload_n 3, 1) := by decide +kernel
theorem dX3_firstFault_27 : decode cX3_firstFault 27 = .ok (.ireturn, 1) := by decide +kernel
theorem dX3_firstFault_28 : decode cX3_firstFault 28 = .ok (.aload_n 0, 1) := by decide +kernel
theorem dX3_firstFault_29 : decode cX3_firstFault 29 = .ok (.getfield 9, 3) := by decide +kernel
theorem dX3_firstFault_32 : decode cX3_firstFault 32 = .ok (.iload_n 3, 1) := by decide +kernel
theorem dX3_firstFault_33 : decode cX3_firstFault 33 = .ok (.iaload, 1) := by decide +kernel
theorem dX3_firstFault_34 : decode cX3_firstFault 34 = .ok (.aload_n 0, 1) := by decide +kernel
theorem dX3_firstFault_35 : decode cX3_firstFault 35 = .ok (.getfield 9, 3) := by decide +kernel
theorem dX3_firstFault_38 : decode cX3_firstFault 38 = .ok (.iload_n 3, 1) := by decide +kernel
theorem dX3_firstFault_39 : decode cX3_firstFault 39 = .ok (.iload_n 2, 1) := by decide +kernel
theorem dX3_firstFault_40 : decode cX3_firstFault 40 = .ok (.isub, 1) := by decide +kernel
theorem dX3_firstFault_41 : decode cX3_firstFault 41 = .ok (.iaload, 1) := by decide +kernel
theorem dX3_firstFault_42 : decode cX3_firstFault 42 = .ok (.if_icmp .le 7, 3) := by decide +kernel
theorem dX3_firstFault_45 : decode cX3_firstFault 45 = .ok (.iload_n 3, 1) := by decide +kernel
theorem dX3_firstFault_46 : decode cX3_firstFault 46 = .ok (.iconst 1, 1) := by decide +kernel
theorem dX3_firstFault_47 : decode cX3_firstFault 47 = .ok (.iadd, 1) := by decide +kernel
theorem dX3_firstFault_48 : decode cX3_firstFault 48 = .ok (.istore_n 2, 1) := by decide +kernel
theorem dX3_firstFault_49 : decode cX3_firstFault 49 = .ok (.iinc 3 1, 3) := by decide +kernel
theorem dX3_firstFault_52 : decode cX3_firstFault 52 = .ok (.goto (-48), 3) := by decide +kernel
theorem dX3_firstFault_55 : decode cX3_firstFault 55 = .ok (.iload_n 1, 1) := by decide +kernel
theorem dX3_firstFault_56 : decode cX3_firstFault 56 = .ok (.ireturn, 1) := by decide +kernel
theorem dX3_wordsAboveRow_0 : decode cX3_wordsAboveRow 0 = .ok (.iconst 0, 1) := by decide +kernel
theorem dX3_wordsAboveRow_1 : decode cX3_wordsAboveRow 1 = .ok (.istore_n 2, 1) := by decide +kernel
theorem dX3_wordsAboveRow_2 : decode cX3_wordsAboveRow 2 = .ok (.aload_n 0, 1) := by decide +kernel
theorem dX3_wordsAboveRow_3 : decode cX3_wordsAboveRow 3 = .ok (.getfield 15, 3) := by decide +kernel
theorem dX3_wordsAboveRow_6 : decode cX3_wordsAboveRow 6 = .ok (.iconst 0, 1) := by decide +kernel
theorem dX3_wordsAboveRow_7 : decode cX3_wordsAboveRow 7 = .ok (.iconst 1, 1) := by decide +kernel
theorem dX3_wordsAboveRow_8 : decode cX3_wordsAboveRow 8 = .ok (.iastore, 1) := by decide +kernel
theorem dX3_wordsAboveRow_9 : decode cX3_wordsAboveRow 9 = .ok (.iconst 1, 1) := by decide +kernel
theorem dX3_wordsAboveRow_10 : decode cX3_wordsAboveRow 10 = .ok (.istore_n 3, 1) := by decide +kernel
theorem dX3_wordsAboveRow_11 : decode cX3_wordsAboveRow 11 = .ok (.iload_n 3, 1) := by decide +kernel
theorem dX3_wordsAboveRow_12 : decode cX3_wordsAboveRow 12 = .ok (.iload_n 1, 1) := by decide +kernel
theorem dX3_wordsAboveRow_13 : decode cX3_wordsAboveRow 13 = .ok (.if_icmp .gt 58, 3) := by decide +kernel
theorem dX3_wordsAboveRow_16 : decode cX3_wordsAboveRow 16 = .ok (.aload_n 0, 1) := by decide +kernel
theorem dX3_wordsAboveRow_17 : decode cX3_wordsAboveRow 17 = .ok (.getfield 15, 3) := by decide +kernel
theorem dX3_wordsAboveRow_20 : decode cX3_wordsAboveRow 20 = .ok (.iload_n 3, 1) := by decide +kernel
theorem dX3_wordsAboveRow_21 : decode cX3_wordsAboveRow 21 = .ok (.iconst 0, 1) := by decide +kernel
theorem dX3_wordsAboveRow_22 : decode cX3_wordsAboveRow 22 = .ok (.iastore, 1) := by decide +kernel
theorem dX3_wordsAboveRow_23 : decode cX3_wordsAboveRow 23 = .ok (.iconst 1, 1) := by decide +kernel
theorem dX3_wordsAboveRow_24 : decode cX3_wordsAboveRow 24 = .ok (.istore 4, 2) := by decide +kernel
theorem dX3_wordsAboveRow_26 : decode cX3_wordsAboveRow 26 = .ok (.iload 4, 2) := by decide +kernel
theorem dX3_wordsAboveRow_28 : decode cX3_wordsAboveRow 28 = .ok (.iload_n 3, 1) := by decide +kernel
theorem dX3_wordsAboveRow_29 : decode cX3_wordsAboveRow 29 = .ok (.if_icmp .gt 36, 3) := by decide +kernel
theorem dX3_wordsAboveRow_32 : decode cX3_wordsAboveRow 32 = .ok (.aload_n 0, 1) := by decide +kernel
theorem dX3_wordsAboveRow_33 : decode cX3_wordsAboveRow 33 = .ok (.getfield 15, 3) := by decide +kernel
theorem dX3_wordsAboveRow_36 : decode cX3_wordsAboveRow 36 = .ok (.iload_n 3, 1) := by decide +kernel
theorem dX3_wordsAboveRow_37 : decode cX3_wordsAboveRow 37 = .ok (.dup2, 1) := by decide +kernel
theorem dX3_wordsAboveRow_38 : decode cX3_wordsAboveRow 38 = .ok (.iaload, 1) := by decide +kernel
theorem dX3_wordsAboveRow_39 : decode cX3_wordsAboveRow 39 = .ok (.aload_n 0, 1) := by decide +kernel
theorem dX3_wordsAboveRow_40 : decode cX3_wordsAboveRow 40 = .ok (.iload 4, 2) := by decide +kernel
theorem dX3_wordsAboveRow_42 : decode cX3_wordsAboveRow 42 = .ok (.iconst 1, 1) := by decide +kernel
theorem dX3_wordsAboveRow_43 : decode cX3_wordsAboveRow 43 = .ok (.isub, 1) := by decide +kernel
theorem dX3_wordsAboveRow_44 : decode cX3_wordsAboveRow 44 = .ok (.invokevirtual 70, 3) := by decide +kernel
theorem dX3_wordsAboveRow_47 : decode cX3_wordsAboveRow 47 = .ok (.aload_n 0, 1) := by decide +kernel
theorem dX3_wordsAboveRow_48 : decode cX3_wordsAboveRow 48 = .ok (.getfield 15, 3) := by decide +kernel
theorem dX3_wordsAboveRow_51 : decode cX3_wordsAboveRow 51 = .ok (.iload_n 3, 1) := by decide +kernel
theorem dX3_wordsAboveRow_52 : decode cX3_wordsAboveRow 52 = .ok (.iload 4, 2) := by decide +kernel
theorem dX3_wordsAboveRow_54 : decode cX3_wordsAboveRow 54 = .ok (.isub, 1) := by decide +kernel
theorem dX3_wordsAboveRow_55 : decode cX3_wordsAboveRow 55 = .ok (.iaload, 1) := by decide +kernel
theorem dX3_wordsAboveRow_56 : decode cX3_wordsAboveRow 56 = .ok (.imul, 1) := by decide +kernel
theorem dX3_wordsAboveRow_57 : decode cX3_wordsAboveRow 57 = .ok (.iadd, 1) := by decide +kernel
theorem dX3_wordsAboveRow_58 : decode cX3_wordsAboveRow 58 = .ok (.iastore, 1) := by decide +kernel
theorem dX3_wordsAboveRow_59 : decode cX3_wordsAboveRow 59 = .ok (.iinc 4 1, 3) := by decide +kernel
theorem dX3_wordsAboveRow_62 : decode cX3_wordsAboveRow 62 = .ok (.goto (-36), 3) := by decide +kernel
theorem dX3_wordsAboveRow_65 : decode cX3_wordsAboveRow 65 = .ok (.iinc 3 1, 3) := by decide +kernel
theorem dX3_wordsAboveRow_68 : decode cX3_wordsAboveRow 68 = .ok (.goto (-57), 3) := by decide +kernel
theorem dX3_wordsAboveRow_71 : decode cX3_wordsAboveRow 71 = .ok (.iconst 1, 1) := by decide +kernel
theorem dX3_wordsAboveRow_72 : decode cX3_wordsAboveRow 72 = .ok (.istore_n 3, 1) := by decide +kernel
theorem dX3_wordsAboveRow_73 : decode cX3_wordsAboveRow 73 = .ok (.iload_n 3, 1) := by decide +kernel
theorem dX3_wordsAboveRow_74 : decode cX3_wordsAboveRow 74 = .ok (.iload_n 1, 1) := by decide +kernel
theorem dX3_wordsAboveRow_75 : decode cX3_wordsAboveRow 75 = .ok (.if_icmp .gt 30, 3) := by decide +kernel
theorem dX3_wordsAboveRow_78 : decode cX3_wordsAboveRow 78 = .ok (.iload_n 2, 1) := by decide +kernel
theorem dX3_wordsAboveRow_79 : decode cX3_wordsAboveRow 79 = .ok (.iload_n 3, 1) := by decide +kernel
theorem dX3_wordsAboveRow_80 : decode cX3_wordsAboveRow 80 = .ok (.aload_n 0, 1) := by decide +kernel
theorem dX3_wordsAboveRow_81 : decode cX3_wordsAboveRow 81 = .ok (.iload_n 3, 1) := by decide +kernel
theorem dX3_wordsAboveRow_82 : decode cX3_wordsAboveRow 82 = .ok (.iconst 1, 1) := by decide +kernel
theorem dX3_wordsAboveRow_83 : decode cX3_wordsAboveRow 83 = .ok (.isub, 1) := by decide +kernel
theorem dX3_wordsAboveRow_84 : decode cX3_wordsAboveRow 84 = .ok (.invokevirtual 70, 3) := by decide +kernel
theorem dX3_wordsAboveRow_87 : decode cX3_wordsAboveRow 87 = .ok (.imul, 1) := by decide +kernel
theorem dX3_wordsAboveRow_88 : decode cX3_wordsAboveRow 88 = .ok (.aload_n 0, 1) := by decide +kernel
theorem dX3_wordsAboveRow_89 : decode cX3_wordsAboveRow 89 = .ok (.getfield 15, 3) := by decide +kernel
theorem dX3_wordsAboveRow_92 : decode cX3_wordsAboveRow 92 = .ok (.iload_n 1, 1) := by decide +kernel
theorem dX3_wordsAboveRow_93 : decode cX3_wordsAboveRow 93 = .ok (.iload_n 3, 1) := by decide +kernel
theorem dX3_wordsAboveRow_94 : decode cX3_wordsAboveRow 94 = .ok (.isub, 1) := by decide +kernel
theorem dX3_wordsAboveRow_95 : decode cX3_wordsAboveRow 95 = .ok (.iaload, 1) := by decide +kernel
theorem dX3_wordsAboveRow_96 : decode cX3_wordsAboveRow 96 = .ok (.imul, 1) := by decide +kernel
theorem dX3_wordsAboveRow_97 : decode cX3_wordsAboveRow 97 = .ok (.iadd, 1) := by decide +kernel
theorem dX3_wordsAboveRow_98 : decode cX3_wordsAboveRow 98 = .ok (.istore_n 2, 1) := by decide +kernel
theorem dX3_wordsAboveRow_99 : decode cX3_wordsAboveRow 99 = .ok (.iinc 3 1, 3) := by decide +kernel
theorem dX3_wordsAboveRow_102 : decode cX3_wordsAboveRow 102 = .ok (.goto (-29), 3) := by decide +kernel
theorem dX3_wordsAboveRow_105 : decode cX3_wordsAboveRow 105 = .ok (.iload_n 2, 1) := by decide +kernel
theorem dX3_wordsAboveRow_106 : decode cX3_wordsAboveRow 106 = .ok (.ireturn, 1) := by decide +kernel
theorem dX3_greaterThan_0 : decode cX3_greaterThan 0 = .ok (.aload_n 0, 1) := by decide +kernel
theorem dX3_greaterThan_1 : decode cX3_greaterThan 1 = .ok (.getfield 21, 3) := by decide +kernel
theorem dX3_greaterThan_4 : decode cX3_greaterThan 4 = .ok (.getfield 51, 3) := by decide +kernel
theorem dX3_greaterThan_7 : decode cX3_greaterThan 7 = .ok (.iconst 1, 1) := by decide +kernel
theorem dX3_greaterThan_8 : decode cX3_greaterThan 8 = .ok (.isub, 1) := by decide +kernel
theorem dX3_greaterThan_9 : decode cX3_greaterThan 9 = .ok (.aload_n 0, 1) := by decide +kernel
theorem dX3_greaterThan_10 : decode cX3_greaterThan 10 = .ok (.getfield 9, 3) := by decide +kernel
theorem dX3_greaterThan_13 : decode cX3_greaterThan 13 = .ok (.iload_n 1, 1) := by decide +kernel
theorem dX3_greaterThan_14 : decode cX3_greaterThan 14 = .ok (.iaload, 1) := by decide +kernel
theorem dX3_greaterThan_15 : decode cX3_greaterThan 15 = .ok (.isub, 1) := by decide +kernel
theorem dX3_greaterThan_16 : decode cX3_greaterThan 16 = .ok (.ireturn, 1) := by decide +kernel
theorem dX3_takeAmounts_0 : decode cX3_takeAmounts 0 = .ok (.aload_n 0, 1) := by decide +kernel
theorem dX3_takeAmounts_1 : decode cX3_takeAmounts 1 = .ok (.getfield 18, 3) := by decide +kernel
theorem dX3_takeAmounts_4 : decode cX3_takeAmounts 4 = .ok (.iconst 0, 1) := by decide +kernel
theorem dX3_takeAmounts_5 : decode cX3_takeAmounts 5 = .ok (.iload_n 1, 1) := by decide +kernel
theorem dX3_takeAmounts_6 : decode cX3_takeAmounts 6 = .ok (.iastore, 1) := by decide +kernel
theorem dX3_takeAmounts_7 : decode cX3_takeAmounts 7 = .ok (.aload_n 0, 1) := by decide +kernel
theorem dX3_takeAmounts_8 : decode cX3_takeAmounts 8 = .ok (.getfield 18, 3) := by decide +kernel
theorem dX3_takeAmounts_11 : decode cX3_takeAmounts 11 = .ok (.iconst 1, 1) := by decide +kernel
theorem dX3_takeAmounts_12 : decode cX3_takeAmounts 12 = .ok (.iload_n 2, 1) := by decide +kernel
theorem dX3_takeAmounts_13 : decode cX3_takeAmounts 13 = .ok (.iastore, 1) := by decide +kernel
theorem dX3_takeAmounts_14 : decode cX3_takeAmounts 14 = .ok (.aload_n 0, 1) := by decide +kernel
theorem dX3_takeAmounts_15 : decode cX3_takeAmounts 15 = .ok (.getfield 18, 3) := by decide +kernel
theorem dX3_takeAmounts_18 : decode cX3_takeAmounts 18 = .ok (.iconst 2, 1) := by decide +kernel
theorem dX3_takeAmounts_19 : decode cX3_takeAmounts 19 = .ok (.iload_n 3, 1) := by decide +kernel
theorem dX3_takeAmounts_20 : decode cX3_takeAmounts 20 = .ok (.iastore, 1) := by decide +kernel
theorem dX3_takeAmounts_21 : decode cX3_takeAmounts 21 = .ok (.aload_n 0, 1) := by decide +kernel
theorem dX3_takeAmounts_22 : decode cX3_takeAmounts 22 = .ok (.getfield 18, 3) := by decide +kernel
theorem dX3_takeAmounts_25 : decode cX3_takeAmounts 25 = .ok (.iconst 3, 1) := by decide +kernel
theorem dX3_takeAmounts_26 : decode cX3_takeAmounts 26 = .ok (.iload 4, 2) := by decide +kernel
theorem dX3_takeAmounts_28 : decode cX3_takeAmounts 28 = .ok (.iastore, 1) := by decide +kernel
theorem dX3_takeAmounts_29 : decode cX3_takeAmounts 29 = .ok (.aload_n 0, 1) := by decide +kernel
theorem dX3_takeAmounts_30 : decode cX3_takeAmounts 30 = .ok (.getfield 18, 3) := by decide +kernel
theorem dX3_takeAmounts_33 : decode cX3_takeAmounts 33 = .ok (.iconst 4, 1) := by decide +kernel
theorem dX3_takeAmounts_34 : decode cX3_takeAmounts 34 = .ok (.iload 5, 2) := by decide +kernel
theorem dX3_takeAmounts_36 : decode cX3_takeAmounts 36 = .ok (.iastore, 1) := by decide +kernel
theorem dX3_takeAmounts_37 : decode cX3_takeAmounts 37 = .ok (.iconst 0, 1) := by decide +kernel
theorem dX3_takeAmounts_38 : decode cX3_takeAmounts 38 = .ok (.istore 6, 2) := by decide +kernel
theorem dX3_takeAmounts_40 : decode cX3_takeAmounts 40 = .ok (.iconst 0, 1) := by decide +kernel
theorem dX3_takeAmounts_41 : decode cX3_takeAmounts 41 = .ok (.istore 7, 2) := by decide +kernel
theorem dX3_takeAmounts_43 : decode cX3_takeAmounts 43 = .ok (.iload 7, 2) := by decide +kernel
theorem dX3_takeAmounts_45 : decode cX3_takeAmounts 45 = .ok (.iconst 5, 1) := by decide +kernel
theorem dX3_takeAmounts_46 : decode cX3_takeAmounts 46 = .ok (.if_icmp .ge 70, 3) := by decide +kernel
theorem dX3_takeAmounts_49 : decode cX3_takeAmounts 49 = .ok (.aload_n 0, 1) := by decide +kernel
theorem dX3_takeAmounts_50 : decode cX3_takeAmounts 50 = .ok (.getfield 21, 3) := by decide +kernel
theorem dX3_takeAmounts_53 : decode cX3_takeAmounts 53 = .ok (.iload 7, 2) := by decide +kernel
theorem dX3_takeAmounts_55 : decode cX3_takeAmounts 55 = .ok (.invokevirtual 73, 3) := by decide +kernel
theorem dX3_takeAmounts_58 : decode cX3_takeAmounts 58 = .ok (.ifCond .eq 13, 3) := by decide +kernel
theorem dX3_takeAmounts_61 : decode cX3_takeAmounts 61 = .ok (.aload_n 0, 1) := by decide +kernel
theorem dX3_takeAmounts_62 : decode cX3_takeAmounts 62 = .ok (.getfield 21, 3) := by decide +kernel
theorem dX3_takeAmounts_65 : decode cX3_takeAmounts 65 = .ok (.getfield 25, 3) := by decide +kernel
theorem dX3_takeAmounts_68 : decode cX3_takeAmounts 68 = .ok (.goto 4, 3) := by decide +kernel
theorem dX3_takeAmounts_71 : decode cX3_takeAmounts 71 = .ok (.iconst 0, 1) := by decide +kernel
theorem dX3_takeAmounts_72 : decode cX3_takeAmounts 72 = .ok (.istore 8, 2) := by decide +kernel
theorem dX3_takeAmounts_74 : decode cX3_takeAmounts 74 = .ok (.aload_n 0, 1) := by decide +kernel
theorem dX3_takeAmounts_75 : decode cX3_takeAmounts 75 = .ok (.getfield 18, 3) := by decide +kernel
theorem dX3_takeAmounts_78 : decode cX3_takeAmounts 78 = .ok (.iload 7, 2) := by decide +kernel
theorem dX3_takeAmounts_80 : decode cX3_takeAmounts 80 = .ok (.iaload, 1) := by decide +kernel
theorem dX3_takeAmounts_81 : decode cX3_takeAmounts 81 = .ok (.ifCond .lt 15, 3) := by decide +kernel
theorem dX3_takeAmounts_84 : decode cX3_takeAmounts 84 = .ok (.aload_n 0, 1) := by decide +kernel
theorem dX3_takeAmounts_85 : decode cX3_takeAmounts 85 = .ok (.getfield 18, 3) := by decide +kernel
theorem dX3_takeAmounts_88 : decode cX3_takeAmounts 88 = .ok (.iload 7, 2) := by decide +kernel
theorem dX3_takeAmounts_90 : decode cX3_takeAmounts 90 = .ok (.iaload, 1) := by decide +kernel
theorem dX3_takeAmounts_91 : decode cX3_takeAmounts 91 = .ok (.iload 8, 2) := by decide +kernel
theorem dX3_takeAmounts_93 : decode cX3_takeAmounts 93 = .ok (.if_icmp .le 5, 3) := by decide +kernel
theorem dX3_takeAmounts_96 : decode cX3_takeAmounts 96 = .ok (.iconst 0, 1) := by decide +kernel
theorem dX3_takeAmounts_97 : decode cX3_takeAmounts 97 = .ok (.ireturn, 1) := by decide +kernel
theorem dX3_takeAmounts_98 : decode cX3_takeAmounts 98 = .ok (.iload 6, 2) := by decide +kernel
theorem dX3_takeAmounts_100 : decode cX3_takeAmounts 100 = .ok (.aload_n 0, 1) := by decide +kernel
theorem dX3_takeAmounts_101 : decode cX3_takeAmounts 101 = .ok (.getfield 18, 3) := by decide +kernel
theorem dX3_takeAmounts_104 : decode cX3_takeAmounts 104 = .ok (.iload 7, 2) := by decide +kernel
theorem dX3_takeAmounts_106 : decode cX3_takeAmounts 106 = .ok (.iaload, 1) := by decide +kernel
theorem dX3_takeAmounts_107 : decode cX3_takeAmounts 107 = .ok (.iadd, 1) := by decide +kernel
theorem dX3_takeAmounts_108 : decode cX3_takeAmounts 108 = .ok (.istore 6, 2) := by decide +kernel
theorem dX3_takeAmounts_110 : decode cX3_takeAmounts 110 = .ok (.iinc 7 1, 3) := by decide +kernel
theorem dX3_takeAmounts_113 : decode cX3_takeAmounts 113 = .ok (.goto (-70), 3) := by decide +kernel
theorem dX3_takeAmounts_116 : decode cX3_takeAmounts 116 = .ok (.iload 6, 2) := by decide +kernel
theorem dX3_takeAmounts_118 : decode cX3_takeAmounts 118 = .ok (.aload_n 0, 1) := by decide +kernel
theorem dX3_takeAmounts_119 : decode cX3_takeAmounts 119 = .ok (.getfield 21, 3) := by decide +kernel
theorem dX3_takeAmounts_122 : decode cX3_takeAmounts 122 = .ok (.getfield 25, 3) := by decide +kernel
theorem dX3_takeAmounts_125 : decode cX3_takeAmounts 125 = .ok (.if_icmp .ne 7, 3) := by decide +kernel
theorem dX3_takeAmounts_128 : decode cX3_takeAmounts 128 = .ok (.iconst 1, 1) := by decide +kernel
theorem dX3_takeAmounts_129 : decode cX3_takeAmounts 129 = .ok (.goto 4, 3) := by decide +kernel
theorem dX3_takeAmounts_132 : decode cX3_takeAmounts 132 = .ok (.iconst 0, 1) := by decide +kernel
theorem dX3_takeAmounts_133 : decode cX3_takeAmounts 133 = .ok (.ireturn, 1) := by decide +kernel
theorem dX3_ringsOfAmounts_0 : decode cX3_ringsOfAmounts 0 = .ok (.lconst 0, 1) := by decide +kernel
theorem dX3_ringsOfAmounts_1 : decode cX3_ringsOfAmounts 1 = .ok (.lstore_n 1, 1) := by decide +kernel
theorem dX3_ringsOfAmounts_2 : decode cX3_ringsOfAmounts 2 = .ok (.iconst 1, 1) := by decide +kernel
theorem dX3_ringsOfAmounts_3 : decode cX3_ringsOfAmounts 3 = .ok (.istore_n 3, 1) := by decide +kernel
theorem dX3_ringsOfAmounts_4 : decode cX3_ringsOfAmounts 4 = .ok (.iload_n 3, 1) := by decide +kernel
theorem dX3_ringsOfAmounts_5 : decode cX3_ringsOfAmounts 5 = .ok (.aload_n 0, 1) := by decide +kernel
theorem dX3_ringsOfAmounts_6 : decode cX3_ringsOfAmounts 6 = .ok (.getfield 21, 3) := by decide +kernel
theorem dX3_ringsOfAmounts_9 : decode cX3_ringsOfAmounts 9 = .ok (.getfield 25, 3) := by decide +kernel
theorem dX3_ringsOfAmounts_12 : decode cX3_ringsOfAmounts 12 = .ok (.if_icmp .gt 32, 3) := by decide +kernel
theorem dX3_ringsOfAmounts_15 : decode cX3_ringsOfAmounts 15 = .ok (.aload_n 0, 1) := by decide +kernel
theorem dX3_ringsOfAmounts_16 : decode cX3_ringsOfAmounts 16 = .ok (.iload_n 3, 1) := by decide +kernel
theorem dX3_ringsOfAmounts_17 : decode cX3_ringsOfAmounts 17 = .ok (.invokevirtual 77, 3) := by decide +kernel
theorem dX3_ringsOfAmounts_20 : decode cX3_ringsOfAmounts 20 = .ok (.ifCond .eq 18, 3) := by decide +kernel
theorem dX3_ringsOfAmounts_23 : decode cX3_ringsOfAmounts 23 = .ok (.lload_n 1, 1) := by decide +kernel
theorem dX3_ringsOfAmounts_24 : decode cX3_ringsOfAmounts 24 = .ok (.getstatic 31, 3) := by decide +kernel
theorem dX3_ringsOfAmounts_27 : decode cX3_ringsOfAmounts 27 = .ok (.iload_n 3, 1) := by decide +kernel
theorem dX3_ringsOfAmounts_28 : decode cX3_ringsOfAmounts 28 = .ok (.iaload, 1) := by decide +kernel
theorem dX3_ringsOfAmounts_29 : decode cX3_ringsOfAmounts 29 = .ok (.i2l, 1) := by decide +kernel
theorem dX3_ringsOfAmounts_30 : decode cX3_ringsOfAmounts 30 = .ok (.aload_n 0, 1) := by decide +kernel
theorem dX3_ringsOfAmounts_31 : decode cX3_ringsOfAmounts 31 = .ok (.iload_n 3, 1) := by decide +kernel
theorem dX3_ringsOfAmounts_32 : decode cX3_ringsOfAmounts 32 = .ok (.invokevirtual 80, 3) := by decide +kernel
theorem dX3_ringsOfAmounts_35 : decode cX3_ringsOfAmounts 35 = .ok (.lmul, 1) := by decide +kernel
theorem dX3_ringsOfAmounts_36 : decode cX3_ringsOfAmounts 36 = .ok (.ladd, 1) := by decide +kernel
theorem dX3_ringsOfAmounts_37 : decode cX3_ringsOfAmounts 37 = .ok (.lstore_n 1, 1) := by decide +kernel
theorem dX3_ringsOfAmounts_38 : decode cX3_ringsOfAmounts 38 = .ok (.iinc 3 1, 3) := by decide +kernel
theorem dX3_ringsOfAmounts_41 : decode cX3_ringsOfAmounts 41 = .ok (.goto (-37), 3) := by decide +kernel
theorem dX3_ringsOfAmounts_44 : decode cX3_ringsOfAmounts 44 = .ok (.lload_n 1, 1) := by decide +kernel
theorem dX3_ringsOfAmounts_45 : decode cX3_ringsOfAmounts 45 = .ok (.aload_n 0, 1) := by decide +kernel
theorem dX3_ringsOfAmounts_46 : decode cX3_ringsOfAmounts 46 = .ok (.getfield 21, 3) := by decide +kernel
theorem dX3_ringsOfAmounts_49 : decode cX3_ringsOfAmounts 49 = .ok (.getfield 25, 3) := by decide +kernel
theorem dX3_ringsOfAmounts_52 : decode cX3_ringsOfAmounts 52 = .ok (.i2l, 1) := by decide +kernel
theorem dX3_ringsOfAmounts_53 : decode cX3_ringsOfAmounts 53 = .ok (.ldiv, 1) := by decide +kernel
theorem dX3_ringsOfAmounts_54 : decode cX3_ringsOfAmounts 54 = .ok (.l2i, 1) := by decide +kernel
theorem dX3_ringsOfAmounts_55 : decode cX3_ringsOfAmounts 55 = .ok (.ireturn, 1) := by decide +kernel
theorem dX3_allDivisible_0 : decode cX3_allDivisible 0 = .ok (.iconst 0, 1) := by decide +kernel
theorem dX3_allDivisible_1 : decode cX3_allDivisible 1 = .ok (.istore_n 2, 1) := by decide +kernel
theorem dX3_allDivisible_2 : decode cX3_allDivisible 2 = .ok (.iload_n 2, 1) := by decide +kernel
theorem dX3_allDivisible_3 : decode cX3_allDivisible 3 = .ok (.iconst 5, 1) := by decide +kernel
theorem dX3_allDivisible_4 : decode cX3_allDivisible 4 = .ok (.if_icmp .ge 22, 3) := by decide +kernel
theorem dX3_allDivisible_7 : decode cX3_allDivisible 7 = .ok (.aload_n 0, 1) := by decide +kernel
theorem dX3_allDivisible_8 : decode cX3_allDivisible 8 = .ok (.getfield 18, 3) := by decide +kernel
theorem dX3_allDivisible_11 : decode cX3_allDivisible 11 = .ok (.iload_n 2, 1) := by decide +kernel
theorem dX3_allDivisible_12 : decode cX3_allDivisible 12 = .ok (.iaload, 1) := by decide +kernel
theorem dX3_allDivisible_13 : decode cX3_allDivisible 13 = .ok (.iload_n 1, 1) := by decide +kernel
theorem dX3_allDivisible_14 : decode cX3_allDivisible 14 = .ok (.irem, 1) := by decide +kernel
theorem dX3_allDivisible_15 : decode cX3_allDivisible 15 = .ok (.ifCond .eq 5, 3) := by decide +kernel
theorem dX3_allDivisible_18 : decode cX3_allDivisible 18 = .ok (.iconst 0, 1) := by decide +kernel
theorem dX3_allDivisible_19 : decode cX3_allDivisible 19 = .ok (.ireturn, 1) := by decide +kernel
theorem dX3_allDivisible_20 : decode cX3_allDivisible 20 = .ok (.iinc 2 1, 3) := by decide +kernel
theorem dX3_allDivisible_23 : decode cX3_allDivisible 23 = .ok (.goto (-21), 3) := by decide +kernel
theorem dX3_allDivisible_26 : decode cX3_allDivisible 26 = .ok (.iconst 1, 1) := by decide +kernel
theorem dX3_allDivisible_27 : decode cX3_allDivisible 27 = .ok (.ireturn, 1) := by decide +kernel
theorem dX3_arrangements_0 : decode cX3_arrangements 0 = .ok (.lconst 1, 1) := by decide +kernel
theorem dX3_arrangements_1 : decode cX3_arrangements 1 = .ok (.lstore_n 2, 1) := by decide +kernel
theorem dX3_arrangements_2 : decode cX3_arrangements 2 = .ok (.iconst 0, 1) := by decide +kernel
theorem dX3_arrangements_3 : decode cX3_arrangements 3 = .ok (.istore 4, 2) := by decide +kernel
theorem dX3_arrangements_5 : decode cX3_arrangements 5 = .ok (.iconst 0, 1) := by decide +kernel
theorem dX3_arrangements_6 : decode cX3_arrangements 6 = .ok (.istore 5, 2) := by decide +kernel
theorem dX3_arrangements_8 : decode cX3_arrangements 8 = .ok (.iload 5, 2) := by decide +kernel
theorem dX3_arrangements_10 : decode cX3_arrangements 10 = .ok (.iconst 5, 1) := by decide +kernel
theorem dX3_arrangements_11 : decode cX3_arrangements 11 = .ok (.if_icmp .ge 45, 3) := by decide +kernel
theorem dX3_arrangements_14 : decode cX3_arrangements 14 = .ok (.iconst 1, 1) := by decide +kernel
theorem dX3_arrangements_15 : decode cX3_arrangements 15 = .ok (.istore 6, 2) := by decide +kernel
theorem dX3_arrangements_17 : decode cX3_arrangements 17 = .ok (.iload 6, 2) := by decide +kernel
theorem dX3_arrangements_19 : decode cX3_arrangements 19 = .ok (.aload_n 0, 1) := by decide +kernel
theorem dX3_arrangements_20 : decode cX3_arrangements 20 = .ok (.getfield 18, 3) := by decide +kernel
theorem dX3_arrangements_23 : decode cX3_arrangements 23 = .ok (.iload 5, 2) := by decide +kernel
theorem dX3_arrangements_25 : decode cX3_arrangements 25 = .ok (.iaload, 1) := by decide +kernel
theorem dX3_arrangements_26 : decode cX3_arrangements 26 = .ok (.iload_n 1, 1) := by decide +kernel
theorem dX3_arrangements_27 : decode cX3_arrangements 27 = .ok (.idiv, 1) := by decide +kernel
theorem dX3_arrangements_28 : decode cX3_arrangements 28 = .ok (.if_icmp .gt 22, 3) := by decide +kernel
theorem dX3_arrangements_31 : decode cX3_arrangements 31 = .ok (.iinc 4 1, 3) := by decide +kernel
theorem dX3_arrangements_34 : decode cX3_arrangements 34 = .ok (.lload_n 2, 1) := by decide +kernel
theorem dX3_arrangements_35 : decode cX3_arrangements 35 = .ok (.iload 4, 2) := by decide +kernel
theorem dX3_arrangements_37 : decode cX3_arrangements 37 = .ok (.i2l, 1) := by decide +kernel
theorem dX3_arrangements_38 : decode cX3_arrangements 38 = .ok (.lmul, 1) := by decide +kernel
theorem dX3_arrangements_39 : decode cX3_arrangements 39 = .ok (.iload 6, 2) := by decide +kernel
theorem dX3_arrangements_41 : decode cX3_arrangements 41 = .ok (.i2l, 1) := by decide +kernel
theorem dX3_arrangements_42 : decode cX3_arrangements 42 = .ok (.ldiv, 1) := by decide +kernel
theorem dX3_arrangements_43 : decode cX3_arrangements 43 = .ok (.lstore_n 2, 1) := by decide +kernel
theorem dX3_arrangements_44 : decode cX3_arrangements 44 = .ok (.iinc 6 1, 3) := by decide +kernel
theorem dX3_arrangements_47 : decode cX3_arrangements 47 = .ok (.goto (-30), 3) := by decide +kernel
theorem dX3_arrangements_50 : decode cX3_arrangements 50 = .ok (.iinc 5 1, 3) := by decide +kernel
theorem dX3_arrangements_53 : decode cX3_arrangements 53 = .ok (.goto (-45), 3) := by decide +kernel
theorem dX3_arrangements_56 : decode cX3_arrangements 56 = .ok (.lload_n 2, 1) := by decide +kernel
theorem dX3_arrangements_57 : decode cX3_arrangements 57 = .ok (.lreturn, 1) := by decide +kernel
theorem dX4_init_0 : decode cX4_init 0 = .ok (.aload_n 0, 1) := by decide +kernel
theorem dX4_init_1 : decode cX4_init 1 = .ok (.invokespecial 3, 3) := by decide +kernel
theorem dX4_init_4 : decode cX4_init 4 = .ok (.aload_n 0, 1) := by decide +kernel
theorem dX4_init_5 : decode cX4_init 5 = .ok (.sipush 20000, 3) := by decide +kernel
theorem dX4_init_8 : decode cX4_init 8 = .ok (.newarray .byte, 2) := by decide +kernel
theorem dX4_init_10 : decode cX4_init 10 = .ok (.putfield 9, 3) := by decide +kernel
theorem dX4_init_13 : decode cX4_init 13 = .ok (.aload_n 0, 1) := by decide +kernel
theorem dX4_init_14 : decode cX4_init 14 = .ok (.sipush 20000, 3) := by decide +kernel
theorem dX4_init_17 : decode cX4_init 17 = .ok (.newarray .int, 2) := by decide +kernel
theorem dX4_init_19 : decode cX4_init 19 = .ok (.putfield 15, 3) := by decide +kernel
theorem dX4_init_22 : decode cX4_init 22 = .ok (.aload_n 0, 1) := by decide +kernel
theorem dX4_init_23 : decode cX4_init 23 = .ok (.iconst (-1), 1) := by decide +kernel
theorem dX4_init_24 : decode cX4_init 24 = .ok (.putfield 19, 3) := by decide +kernel
theorem dX4_init_27 : decode cX4_init 27 = .ok (.aload_n 0, 1) := by decide +kernel
theorem dX4_init_28 : decode cX4_init 28 = .ok (.bipush 14, 2) := by decide +kernel
theorem dX4_init_30 : decode cX4_init 30 = .ok (.newarray .int, 2) := by decide +kernel
theorem dX4_init_32 : decode cX4_init 32 = .ok (.putfield 23, 3) := by decide +kernel
theorem dX4_init_35 : decode cX4_init 35 = .ok (.aload_n 0, 1) := by decide +kernel
theorem dX4_init_36 : decode cX4_init 36 = .ok (.iconst 5, 1) := by decide +kernel
theorem dX4_init_37 : decode cX4_init 37 = .ok (.newarray .long, 2) := by decide +kernel
theorem dX4_init_39 : decode cX4_init 39 = .ok (.putfield 26, 3) := by decide +kernel
theorem dX4_init_42 : decode cX4_init 42 = .ok (.aload_n 0, 1) := by decide +kernel
theorem dX4_init_43 : decode cX4_init 43 = .ok (.iconst 5, 1) := by decide +kernel
theorem dX4_init_44 : decode cX4_init 44 = .ok (.newarray .long, 2) := by decide +kernel
theorem dX4_init_46 : decode cX4_init 46 = .ok (.putfield 30, 3) := by decide +kernel
theorem dX4_init_49 : decode cX4_init 49 = .ok (.aload_n 0, 1) := by decide +kernel
theorem dX4_init_50 : decode cX4_init 50 = .ok (.iconst (-1), 1) := by decide +kernel
theorem dX4_init_51 : decode cX4_init 51 = .ok (.putfield 33, 3) := by decide +kernel
theorem dX4_init_54 : decode cX4_init 54 = .ok (.aload_n 0, 1) := by decide +kernel
theorem dX4_init_55 : decode cX4_init 55 = .ok (.aload_n 1, 1) := by decide +kernel
theorem dX4_init_56 : decode cX4_init 56 = .ok (.putfield 36, 3) := by decide +kernel
theorem dX4_init_59 : decode cX4_init 59 = .ok (.return_, 1) := by decide +kernel
theorem dX4_drop_0 : decode cX4_drop 0 = .ok (.aload_n 0, 1) := by decide +kernel
theorem dX4_drop_1 : decode cX4_drop 1 = .ok (.iconst (-1), 1) := by decide +kernel
theorem dX4_drop_2 : decode cX4_drop 2 = .ok (.putfield 19, 3) := by decide +kernel
theorem dX4_drop_5 : decode cX4_drop 5 = .ok (.return_, 1) := by decide +kernel
theorem dX4_isThere_0 : decode cX4_isThere 0 = .ok (.aload_n 0, 1) := by decide +kernel
theorem dX4_isThere_1 : decode cX4_isThere 1 = .ok (.getfield 19, 3) := by decide +kernel
theorem dX4_isThere_4 : decode cX4_isThere 4 = .ok (.iconst (-1), 1) := by decide +kernel
theorem dX4_isThere_5 : decode cX4_isThere 5 = .ok (.if_icmp .eq 7, 3) := by decide +kernel
theorem dX4_isThere_8 : decode cX4_isThere 8 = .ok (.iconst 1, 1) := by decide +kernel
theorem dX4_isThere_9 : decode cX4_isThere 9 = .ok (.goto 4, 3) := by decide +kernel
theorem dX4_isThere_12 : decode cX4_isThere 12 = .ok (.iconst 0, 1) := by decide +kernel
theorem dX4_isThere_13 : decode cX4_isThere 13 = .ok (.ireturn, 1) := by decide +kernel
theorem dX4_isPlace_0 : decode cX4_isPlace 0 = .ok (.aload_n 0, 1) := by decide +kernel
theorem dX4_isPlace_1 : decode cX4_isPlace 1 = .ok (.invokevirtual 40, 3) := by decide +kernel
theorem dX4_isPlace_4 : decode cX4_isPlace 4 = .ok (.ifCond .eq 18, 3) := by decide +kernel
theorem dX4_isPlace_7 : decode cX4_isPlace 7 = .ok (.aload_n 0, 1) := by decide +kernel
theorem dX4_isPlace_8 : decode cX4_isPlace 8 = .ok (.getfield 36, 3) := by decide +kernel
theorem dX4_isPlace_11 : decode cX4_isPlace 11 = .ok (.iload_n 1, 1) := by decide +kernel
theorem dX4_isPlace_12 : decode cX4_isPlace 12 = .ok (.invokevirtual 44, 3) := by decide +kernel
theorem dX4_isPlace_15 : decode cX4_isPlace 15 = .ok (.ifCond .eq 7, 3) := by decide +kernel
theorem dX4_isPlace_18 : decode cX4_isPlace 18 = .ok (.iconst 1, 1) := by decide +kernel
theorem dX4_isPlace_19 : decode cX4_isPlace 19 = .ok (.goto 4, 3) := by decide +kernel
theorem dX4_isPlace_22 : decode cX4_isPlace 22 = .ok (.iconst 0, 1) := by decide +kernel
theorem dX4_isPlace_23 : decode cX4_isPlace 23 = .ok (.ireturn, 1) := by decide +kernel
theorem dX4_becomeLeast_0 : decode cX4_becomeLeast 0 = .ok (.iconst 0, 1) := by decide +kernel
theorem dX4_becomeLeast_1 : decode cX4_becomeLeast 1 = .ok (.istore_n 1, 1) := by decide +kernel
theorem dX4_becomeLeast_2 : decode cX4_becomeLeast 2 = .ok (.iconst 1, 1) := by decide +kernel
theorem dX4_becomeLeast_3 : decode cX4_becomeLeast 3 = .ok (.istore_n 2, 1) := by decide +kernel
theorem dX4_becomeLeast_4 : decode cX4_becomeLeast 4 = .ok (.aload_n 0, 1) := by decide +kernel
theorem dX4_becomeLeast_5 : decode cX4_becomeLeast 5 = .ok (.getfield 23, 3) := by decide +kernel
theorem dX4_becomeLeast_8 : decode cX4_becomeLeast 8 = .ok (.iconst 0, 1) := by decide +kernel
theorem dX4_becomeLeast_9 : decode cX4_becomeLeast 9 = .ok (.iconst 0, 1) := by decide +kernel
theorem dX4_becomeLeast_10 : decode cX4_becomeLeast 10 = .ok (.iastore, 1) := by decide +kernel
theorem dX4_becomeLeast_11 : decode cX4_becomeLeast 11 = .ok (.iconst 0, 1) := by decide +kernel
theorem dX4_becomeLeast_12 : decode cX4_becomeLeast 12 = .ok (.istore_n 3, 1) := by decide +kernel
theorem dX4_becomeLeast_13 : decode cX4_becomeLeast 13 = .ok (.iload_n 3, 1) := by decide +kernel
theorem dX4_becomeLeast_14 : decode cX4_becomeLeast 14 = .ok (.ldc 50, 2) := by decide +kernel
theorem dX4_becomeLeast_16 : decode cX4_becomeLeast 16 = .ok (.if_icmp .ge 74, 3) := by decide +kernel
theorem dX4_becomeLeast_19 : decode cX4_becomeLeast 19 = .ok (.iload_n 2, 1) := by decide +kernel
theorem dX4_becomeLeast_20 : decode cX4_becomeLeast 20 = .ok (.ifCond .le 70, 3) := by decide +kernel
theorem dX4_becomeLeast_23 : decode cX4_becomeLeast 23 = .ok (.aload_n 0, 1) := by decide +kernel
theorem dX4_becomeLeast_24 : decode cX4_becomeLeast 24 = .ok (.getfield 36, 3) := by decide +kernel
theorem dX4_becomeLeast_27 : decode cX4_becomeLeast 27 = .ok (.getfield 51, 3) := by decide +kernel
theorem dX4_becomeLeast_30 : decode cX4_becomeLeast 30 = .ok (.iload_n 2, 1) := by decide +kernel
theorem dX4_becomeLeast_31 : decode cX4_becomeLeast 31 = .ok (.irem, 1) := by decide +kernel
theorem dX4_becomeLeast_32 : decode cX4_becomeLeast 32 = .ok (.ifCond .ne 46, 3) := by decide +kernel
theorem dX4_becomeLeast_35 : decode cX4_becomeLeast 35 = .ok (.iconst 0, 1) := by decide +kernel
theorem dX4_becomeLeast_36 : decode cX4_becomeLeast 36 = .ok (.istore 4, 2) := by decide +kernel
theorem dX4_becomeLeast_38 : decode cX4_becomeLeast 38 = .ok (.iload 4, 2) := by decide +kernel
theorem dX4_becomeLeast_40 : decode cX4_becomeLeast 40 = .ok (.iload_n 2, 1) := by decide +kernel
theorem dX4_becomeLeast_41 : decode cX4_becomeLeast 41 = .ok (.if_icmp .ge 37, 3) := by decide +kernel
theorem dX4_becomeLeast_44 : decode cX4_becomeLeast 44 = .ok (.iload_n 1, 1) := by decide +kernel
theorem dX4_becomeLeast_45 : decode cX4_becomeLeast 45 = .ok (.aload_n 0, 1) := by decide +kernel
theorem dX4_becomeLeast_46 : decode cX4_becomeLeast 46 = .ok (.getfield 36, 3) := by decide +kernel
theorem dX4_becomeLeast_49 : decode cX4_becomeLeast 49 = .ok (.getfield 54, 3) := by decide +kernel
theorem dX4_becomeLeast_52 : decode cX4_becomeLeast 52 = .ok (.if_icmp .ge 26, 3) := by decide +kernel
theorem dX4_becomeLeast_55 : decode cX4_becomeLeast 55 = .ok (.aload_n 0, 1) := by decide +kernel
theorem dX4_becomeLeast_56 : decode cX4_becomeLeast 56 = .ok (.getfield 9, 3) := by decide +kernel
theorem dX4_becomeLeast_59 : decode cX4_becomeLeast 59 = .ok (.iload_n 1, 1) := by decide +kernel
theorem dX4_becomeLeast_60 : decode cX4_becomeLeast 60 = .ok (.aload_n 0, 1) := by decide +kernel
theorem dX4_becomeLeast_61 : decode cX4_becomeLeast 61 = .ok (.getfield 23, 3) := by decide +kernel
theorem dX4_becomeLeast_64 : decode cX4_becomeLeast 64 = .ok (.iload 4, 2) := by decide +kernel
theorem dX4_becomeLeast_66 : decode cX4_becomeLeast 66 = .ok (.iaload, 1) := by decide +kernel
theorem dX4_becomeLeast_67 : decode cX4_becomeLeast 67 = .ok (.i2b, 1) := by decide +kernel
theorem dX4_becomeLeast_68 : decode cX4_becomeLeast 68 = .ok (.bastore, 1) := by decide +kernel
theorem dX4_becomeLeast_69 : decode cX4_becomeLeast 69 = .ok (.iinc 1 1, 3) := by decide +kernel
theorem dX4_becomeLeast_72 : decode cX4_becomeLeast 72 = .ok (.iinc 4 1, 3) := by decide +kernel
theorem dX4_becomeLeast_75 : decode cX4_becomeLeast 75 = .ok (.goto (-37), 3) := by decide +kernel
theorem dX4_becomeLeast_78 : decode cX4_becomeLeast 78 = .ok (.aload_n 0, 1) := by decide +kernel
theorem dX4_becomeLeast_79 : decode cX4_becomeLeast 79 = .ok (.iload_n 2, 1) := by decide +kernel
theorem dX4_becomeLeast_80 : decode cX4_becomeLeast 80 = .ok (.invokevirtual 57, 3) := by decide +kernel
theorem dX4_becomeLeast_83 : decode cX4_becomeLeast 83 = .ok (.istore_n 2, 1) := by decide +kernel
theorem dX4_becomeLeast_84 : decode cX4_becomeLeast 84 = .ok (.iinc 3 1, 3) := by decide +kernel
theorem dX4_becomeLeast_87 : decode cX4_becomeLeast 87 = .ok (.goto (-74), 3) := by decide +kernel
theorem dX4_becomeLeast_90 : decode cX4_becomeLeast 90 = .ok (.aload_n 0, 1) := by decide +kernel
theorem dX4_becomeLeast_91 : decode cX4_becomeLeast 91 = .ok (.iconst 0, 1) := by decide +kernel
theorem dX4_becomeLeast_92 : decode cX4_becomeLeast 92 = .ok (.putfield 19, 3) := by decide +kernel
theorem dX4_becomeLeast_95 : decode cX4_becomeLeast 95 = .ok (.aload_n 0, 1) := by decide +kernel
theorem dX4_becomeLeast_96 : decode cX4_becomeLeast 96 = .ok (.invokevirtual 61, 3) := by decide +kernel
theorem dX4_becomeLeast_99 : decode cX4_becomeLeast 99 = .ok (.return_, 1) := by decide +kernel
theorem dX4_nextRow_0 : decode cX4_nextRow 0 = .ok (.iload_n 1, 1) := by decide +kernel
theorem dX4_nextRow_1 : decode cX4_nextRow 1 = .ok (.istore_n 2, 1) := by decide +kernel
theorem dX4_nextRow_2 : decode cX4_nextRow 2 = .ok (.iload_n 2, 1) := by decide +kernel
theorem dX4_nextRow_3 : decode cX4_nextRow 3 = .ok (.aload_n 0, 1) := by decide +kernel
theorem dX4_nextRow_4 : decode cX4_nextRow 4 = .ok (.getfield 36, 3) := by decide +kernel
theorem dX4_nextRow_7 : decode cX4_nextRow 7 = .ok (.getfield 51, 3) := by decide +kernel
theorem dX4_nextRow_10 : decode cX4_nextRow 10 = .ok (.if_icmp .ge 23, 3) := by decide +kernel
theorem dX4_nextRow_13 : decode cX4_nextRow 13 = .ok (.aload_n 0, 1) := by decide +kernel
theorem dX4_nextRow_14 : decode cX4_nextRow 14 = .ok (.getfield 23, 3) := by decide +kernel
theorem dX4_nextRow_17 : decode cX4_nextRow 17 = .ok (.iload_n 2, 1) := by decide +kernel
theorem dX4_nextRow_18 : decode cX4_nextRow 18 = .ok (.aload_n 0, 1) := by decide +kernel
theorem dX4_nextRow_19 : decode cX4_nextRow 19 = .ok (.getfield 23, 3) := by decide +kernel
theorem dX4_nextRow_22 : decode cX4_nextRow 22 = .ok (.iload_n 2, 1) := by decide +kernel
theorem dX4_nextRow_23 : decode cX4_nextRow 23 = .ok (.iload_n 1, 1) := by decide +kernel
theorem dX4_nextRow_24 : decode cX4_nextRow 24 = .ok (.isub, 1) := by decide +kernel
theorem dX4_nextRow_25 : decode cX4_nextRow 25 = .ok (.iaload, 1) := by decide +kernel
theorem dX4_nextRow_26 : decode cX4_nextRow 26 = .ok (.iastore, 1) := by decide +kernel
theorem dX4_nextRow_27 : decode cX4_nextRow 27 = .ok (.iinc 2 1, 3) := by decide +kernel
theorem dX4_nextRow_30 : decode cX4_nextRow 30 = .ok (.goto (-28), 3) := by decide +kernel
theorem dX4_nextRow_33 : decode cX4_nextRow 33 = .ok (.aload_n 0, 1) := by decide +kernel
theorem dX4_nextRow_34 : decode cX4_nextRow 34 = .ok (.getfield 36, 3) := by decide +kernel
theorem dX4_nextRow_37 : decode cX4_nextRow 37 = .ok (.getfield 51, 3) := by decide +kernel
theorem dX4_nextRow_40 : decode cX4_nextRow 40 = .ok (.istore_n 2, 1) := by decide +kernel
theorem dX4_nextRow_41 : decode cX4_nextRow 41 = .ok (.iload_n 2, 1) := by decide +kernel
theorem dX4_nextRow_42 : decode cX4_nextRow 42 = .ok (.ifCond .le 29, 3) := by decide +kernel
theorem dX4_nextRow_45 : decode cX4_nextRow 45 = .ok (.aload_n 0, 1) := by decide +kernel
theorem dX4_nextRow_46 : decode cX4_nextRow 46 = .ok (.getfield 23, 3) := by decide +kernel
theorem dX4_nextRow_49 : decode cX4_nextRow 49 = .ok (.iload_n 2, 1) := by decide +kernel
theorem dX4_nextRow_50 : decode cX4_nextRow 50 = .ok (.iconst 1, 1) := by decide +kernel
theorem dX4_nextRow_51 : decode cX4_nextRow 51 = .ok (.isub, 1) := by decide +kernel
theorem dX4_nextRow_52 : decode cX4_nextRow 52 = .ok (.iaload, 1) := by decide +kernel
theorem dX4_nextRow_53 : decode cX4_nextRow 53 = .ok (.aload_n 0, 1) := by decide +kernel
theorem dX4_nextRow_54 : decode cX4_nextRow 54 = .ok (.getfield 36, 3) := by decide +kernel
theorem dX4_nextRow_57 : decode cX4_nextRow 57 = .ok (.getfield 64, 3) := by decide +kernel
theorem dX4_nextRow_60 : decode cX4_nextRow 60 = .ok (.iconst 1, 1) := by decide +kernel
theorem dX4_nextRow_61 : decode cX4_nextRow 61 = .ok (.isub, 1) := by decide +kernel
theorem dX4_nextRow_62 : decode cX4_nextRow 62 = .ok (.if_icmp .ne 9, 3) := by decide +kernel
theorem dX4_nextRow_65 : decode cX4_nextRow 65 = .ok (.iinc 2 (-1), 3) := by decide +kernel
theorem dX4_nextRow_68 : decode cX4_nextRow 68 = .ok (.goto (-27), 3) := by decide +kernel
theorem dX4_nextRow_71 : decode cX4_nextRow 71 = .ok (.iload_n 2, 1) := by decide +kernel
theorem dX4_nextRow_72 : decode cX4_nextRow 72 = .ok (.ifCond .le 15, 3) := by decide +kernel
theorem dX4_nextRow_75 : decode cX4_nextRow 75 = .ok (.aload_n 0, 1) := by decide +kernel
theorem dX4_nextRow_76 : decode cX4_nextRow 76 = .ok (.getfield 23, 3) := by decide +kernel
theorem dX4_nextRow_79 : decode cX4_nextRow 79 = .ok (.iload_n 2, 1) := by decide +kernel
theorem dX4_nextRow_80 : decode cX4_nextRow 80 = .ok (.iconst 1, 1) := by decide +kernel
theorem dX4_nextRow_81 : decode cX4_nextRow 81 = .ok (.isub, 1) := by decide +kernel
theorem dX4_nextRow_82 : decode cX4_nextRow 82 = .ok (.dup2, 1) := by decide +kernel
theorem dX4_nextRow_83 : decode cX4_nextRow 83 = .ok (.iaload, 1) := by decide +kernel
theorem dX4_nextRow_84 : decode cX4_nextRow 84 = .ok (.iconst 1, 1) := by decide +kernel
theorem dX4_nextRow_85 : decode cX4_nextRow 85 = .ok (.iadd, 1) := by decide +kernel
theorem dX4_nextRow_86 : decode cX4_nextRow 86 = .ok (.iastore, 1) := by decide +kernel
theorem dX4_nextRow_87 : decode cX4_nextRow 87 = .ok (.iload_n 2, 1) := by decide +kernel
theorem dX4_nextRow_88 : decode cX4_nextRow 88 = .ok (.ireturn, 1) := by decide +kernel
theorem dX4_findPlaces_0 : decode cX4_findPlaces 0 = .ok (.iconst 0, 1) := by decide +kernel
theorem dX4_findPlaces_1 : decode cX4_findPlaces 1 = .ok (.istore_n 1, 1) := by decide +kernel
theorem dX4_findPlaces_2 : decode cX4_findPlaces 2 = .ok (.aload_n 0, 1) := by decide +kernel
theorem dX4_findPlaces_3 : decode cX4_findPlaces 3 = .ok (.getfield 36, 3) := by decide +kernel
theorem dX4_findPlaces_6 : decode cX4_findPlaces 6 = .ok (.getfield 51, 3) := by decide +kernel
theorem dX4_findPlaces_9 : decode cX4_findPlaces 9 = .ok (.istore_n 2, 1) := by decide +kernel
theorem dX4_findPlaces_10 : decode cX4_findPlaces 10 = .ok (.iconst 0, 1) := by decide +kernel
theorem dX4_findPlaces_11 : decode cX4_findPlaces 11 = .ok (.istore_n 3, 1) := by decide +kernel
theorem dX4_findPlaces_12 : decode cX4_findPlaces 12 = .ok (.iload_n 3, 1) := by decide +kernel
theorem dX4_findPlaces_13 : decode cX4_findPlaces 13 = .ok (.aload_n 0, 1) := by decide +kernel
theorem dX4_findPlaces_14 : decode cX4_findPlaces 14 = .ok (.getfield 36, 3) := by decide +kernel
theorem dX4_findPlaces_17 : decode cX4_findPlaces 17 = .ok (.getfield 54, 3) := by decide +kernel
theorem dX4_findPlaces_20 : decode cX4_findPlaces 20 = .ok (.if_icmp .ge 62, 3) := by decide +kernel
theorem dX4_findPlaces_23 : decode cX4_findPlaces 23 = .ok (.aload_n 0, 1) := by decide +kernel
theorem dX4_findPlaces_24 : decode cX4_findPlaces 24 = .ok (.getfield 15, 3) := by decide +kernel
theorem dX4_findPlaces_27 : decode cX4_findPlaces 27 = .ok (.iload_n 1, 1) := by decide +kernel
theorem dX4_findPlaces_28 : decode cX4_findPlaces 28 = .ok (.iload_n 3, 1) := by decide +kernel
theorem dX4_findPlaces_29 : decode cX4_findPlaces 29 = .ok (.iastore, 1) := by decide +kernel
theorem dX4_findPlaces_30 : decode cX4_findPlaces 30 = .ok (.iload_n 1, 1) := by decide +kernel
theorem dX4_findPlaces_31 : decode cX4_findPlaces 31 = .ok (.aload_n 0, 1) := by decide +kernel
theorem dX4_findPlaces_32 : decode cX4_findPlaces 32 = .ok (.getfield 36, 3) := by decide +kernel
theorem dX4_findPlaces_35 : decode cX4_findPlaces 35 = .ok (.getfield 66, 3) := by decide +kernel
theorem dX4_findPlaces_38 : decode cX4_findPlaces 38 = .ok (.irem, 1) := by decide +kernel
theorem dX4_findPlaces_39 : decode cX4_findPlaces 39 = .ok (.aload_n 0, 1) := by decide +kernel
theorem dX4_findPlaces_40 : decode cX4_findPlaces 40 = .ok (.getfield 36, 3) := by decide +kernel
theorem dX4_findPlaces_43 : decode cX4_findPlaces 43 = .ok (.getfield 64, 3) := by decide +kernel
theorem dX4_findPlaces_46 : decode cX4_findPlaces 46 = .ok (.imul, 1) := by decide +kernel
theorem dX4_findPlaces_47 : decode cX4_findPlaces 47 = .ok (.aload_n 0, 1) := by decide +kernel
theorem dX4_findPlaces_48 : decode cX4_findPlaces 48 = .ok (.getfield 9, 3) := by decide +kernel
theorem dX4_findPlaces_51 : decode cX4_findPlaces 51 = .ok (.iload_n 2, 1) := by decide +kernel
theorem dX4_findPlaces_52 : decode cX4_findPlaces 52 = .ok (.baload, 1) := by decide +kernel
theorem dX4_findPlaces_53 : decode cX4_findPlaces 53 = .ok (.iadd, 1) := by decide +kernel
theorem dX4_findPlaces_54 : decode cX4_findPlaces 54 = .ok (.istore_n 1, 1) := by decide +kernel
theorem dX4_findPlaces_55 : decode cX4_findPlaces 55 = .ok (.iload_n 2, 1) := by decide +kernel
theorem dX4_findPlaces_56 : decode cX4_findPlaces 56 = .ok (.iconst 1, 1) := by decide +kernel
theorem dX4_findPlaces_57 : decode cX4_findPlaces 57 = .ok (.iadd, 1) := by decide +kernel
theorem dX4_findPlaces_58 : decode cX4_findPlaces 58 = .ok (.aload_n 0, 1) := by decide +kernel
theorem dX4_findPlaces_59 : decode cX4_findPlaces 59 = .ok (.getfield 36, 3) := by decide +kernel
theorem dX4_findPlaces_62 : decode cX4_findPlaces 62 = .ok (.getfield 54, 3) := by decide +kernel
theorem dX4_findPlaces_65 : decode cX4_findPlaces 65 = .ok (.if_icmp .ge 9, 3) := by decide +kernel
theorem dX4_findPlaces_68 : decode cX4_findPlaces 68 = .ok (.iload_n 2, 1) := by decide +kernel
theorem dX4_findPlaces_69 : decode cX4_findPlaces 69 = .ok (.iconst 1, 1) := by decide +kernel
theorem dX4_findPlaces_70 : decode cX4_findPlaces 70 = .ok (.iadd, 1) := by decide +kernel
theorem dX4_findPlaces_71 : decode cX4_findPlaces 71 = .ok (.goto 4, 3) := by decide +kernel
theorem dX4_findPlaces_74 : decode cX4_findPlaces 74 = .ok (.iconst 0, 1) := by decide +kernel
theorem dX4_findPlaces_75 : decode cX4_findPlaces 75 = .ok (.istore_n 2, 1) := by decide +kernel
theorem dX4_findPlaces_76 : decode cX4_findPlaces 76 = .ok (.iinc 3 1, 3) := by decide +kernel
theorem dX4_findPlaces_79 : decode cX4_findPlaces 79 = .ok (.goto (-67), 3) := by decide +kernel
theorem dX4_findPlaces_82 : decode cX4_findPlaces 82 = .ok (.return_, 1) := by decide +kernel
theorem dX4_becomeGreedy_0 : decode cX4_becomeGreedy 0 = .ok (.aload_n 0, 1) := by decide +kernel
theorem dX4_becomeGreedy_1 : decode cX4_becomeGreedy 1 = .ok (.getfield 15, 3) := by decide +kernel
theorem dX4_becomeGreedy_4 : decode cX4_becomeGreedy 4 = .ok (.iconst 0, 1) := by decide +kernel
theorem dX4_becomeGreedy_5 : decode cX4_becomeGreedy 5 = .ok (.aload_n 0, 1) := by decide +kernel
theorem dX4_becomeGreedy_6 : decode cX4_becomeGreedy 6 = .ok (.getfield 36, 3) := by decide +kernel
theorem dX4_becomeGreedy_9 : decode cX4_becomeGreedy 9 = .ok (.getfield 54, 3) := by decide +kernel
theorem dX4_becomeGreedy_12 : decode cX4_becomeGreedy 12 = .ok (.iconst (-1), 1) := by decide +kernel
theorem dX4_becomeGreedy_13 : decode cX4_becomeGreedy 13 = .ok (.invokestatic 69, 3) := by decide +kernel
theorem dX4_becomeGreedy_16 : decode cX4_becomeGreedy 16 = .ok (.aload_n 0, 1) := by decide +kernel
theorem dX4_becomeGreedy_17 : decode cX4_becomeGreedy 17 = .ok (.getfield 9, 3) := by decide +kernel
theorem dX4_becomeGreedy_20 : decode cX4_becomeGreedy 20 = .ok (.iconst 0, 1) := by decide +kernel
theorem dX4_becomeGreedy_21 : decode cX4_becomeGreedy 21 = .ok (.aload_n 0, 1) := by decide +kernel
theorem dX4_becomeGreedy_22 : decode cX4_becomeGreedy 22 = .ok (.getfield 36, 3) := by decide +kernel
theorem dX4_becomeGreedy_25 : decode cX4_becomeGreedy 25 = .ok (.getfield 51, 3) := by decide +kernel
theorem dX4_becomeGreedy_28 : decode cX4_becomeGreedy 28 = .ok (.iconst 0, 1) := by decide +kernel
theorem dX4_becomeGreedy_29 : decode cX4_becomeGreedy 29 = .ok (.invokestatic 75, 3) := by decide +kernel
theorem dX4_becomeGreedy_32 : decode cX4_becomeGreedy 32 = .ok (.aload_n 0, 1) := by decide +kernel
theorem dX4_becomeGreedy_33 : decode cX4_becomeGreedy 33 = .ok (.getfield 15, 3) := by decide +kernel
theorem dX4_becomeGreedy_36 : decode cX4_becomeGreedy 36 = .ok (.iconst 0, 1) := by decide +kernel
theorem dX4_becomeGreedy_37 : decode cX4_becomeGreedy 37 = .ok (.iconst 0, 1) := by decide +kernel
theorem dX4_becomeGreedy_38 : decode cX4_becomeGreedy 38 = .ok (.iastore, 1) := by decide +kernel
theorem dX4_becomeGreedy_39 : decode cX4_becomeGreedy 39 = .ok (.iconst 0, 1) := by decide +kernel
theorem dX4_becomeGreedy_40 : decode cX4_becomeGreedy 40 = .ok (.istore_n 1, 1) := by decide +kernel
theorem dX4_becomeGreedy_41 : decode cX4_becomeGreedy 41 = .ok (.iconst 1, 1) := by decide +kernel
theorem dX4_becomeGreedy_42 : decode cX4_becomeGreedy 42 = .ok (.istore_n 2, 1) := by decide +kernel
theorem dX4_becomeGreedy_43 : decode cX4_becomeGreedy 43 = .ok (.iload_n 2, 1) := by decide +kernel
theorem dX4_becomeGreedy_44 : decode cX4_becomeGreedy 44 = .ok (.aload_n 0, 1) := by decide +kernel
theorem dX4_becomeGreedy_45 : decode cX4_becomeGreedy 45 = .ok (.getfield 36, 3) := by decide +kernel
theorem dX4_becomeGreedy_48 : decode cX4_becomeGreedy 48 = .ok (.getfield 54, 3) := by decide +kernel
theorem dX4_becomeGreedy_51 : decode cX4_becomeGreedy 51 = .ok (.if_icmp .ge 77, 3) := by decide +kernel
theorem dX4_becomeGreedy_54 : decode cX4_becomeGreedy 54 = .ok (.aload_n 0, 1) := by decide +kernel
theorem dX4_becomeGreedy_55 : decode cX4_becomeGreedy 55 = .ok (.iload_n 1, 1) := by decide +kernel
theorem dX4_becomeGreedy_56 : decode cX4_becomeGreedy 56 = .ok (.aload_n 0, 1) := by decide +kernel
theorem dX4_becomeGreedy_57 : decode cX4_becomeGreedy 57 = .ok (.getfield 36, 3) := by decide +kernel
theorem dX4_becomeGreedy_60 : decode cX4_becomeGreedy 60 = .ok (.getfield 66, 3) := by decide +kernel
theorem dX4_becomeGreedy_63 : decode cX4_becomeGreedy 63 = .ok (.irem, 1) := by decide +kernel
theorem dX4_becomeGreedy_64 : decode cX4_becomeGreedy 64 = .ok (.aload_n 0, 1) := by decide +kernel
theorem dX4_becomeGreedy_65 : decode cX4_becomeGreedy 65 = .ok (.getfield 36, 3) := by decide +kernel
theorem dX4_becomeGreedy_68 : decode cX4_becomeGreedy 68 = .ok (.getfield 64, 3) := by decide +kernel
theorem dX4_becomeGreedy_71 : decode cX4_becomeGreedy 71 = .ok (.imul, 1) := by decide +kernel
theorem dX4_becomeGreedy_72 : decode cX4_becomeGreedy 72 = .ok (.invokevirtual 78, 3) := by decide +kernel
theorem dX4_becomeGreedy_75 : decode cX4_becomeGreedy 75 = .ok (.istore_n 1, 1) := by decide +kernel
theorem dX4_becomeGreedy_76 : decode cX4_becomeGreedy 76 = .ok (.aload_n 0, 1) := by decide +kernel
theorem dX4_becomeGreedy_77 : decode cX4_becomeGreedy 77 = .ok (.getfield 15, 3) := by decide +kernel
theorem dX4_becomeGreedy_80 : decode cX4_becomeGreedy 80 = .ok (.iload_n 1, 1) := by decide +kernel
theorem dX4_becomeGreedy_81 : decode cX4_becomeGreedy 81 = .ok (.iload_n 2, 1) := by decide +kernel
theorem dX4_becomeGreedy_82 : decode cX4_becomeGreedy 82 = .ok (.iastore, 1) := by decide +kernel
theorem dX4_becomeGreedy_83 : decode cX4_becomeGreedy 83 = .ok (.iload_n 2, 1) := by decide +kernel
theorem dX4_becomeGreedy_84 : decode cX4_becomeGreedy 84 = .ok (.aload_n 0, 1) := by decide +kernel
theorem dX4_becomeGreedy_85 : decode cX4_becomeGreedy 85 = .ok (.getfield 36, 3) := by decide +kernel
theorem dX4_becomeGreedy_88 : decode cX4_becomeGreedy 88 = .ok (.getfield 51, 3) := by decide +kernel
theorem dX4_becomeGreedy_91 : decode cX4_becomeGreedy 91 = .ok (.iadd, 1) := by decide +kernel
theorem dX4_becomeGreedy_92 : decode cX4_becomeGreedy 92 = .ok (.iconst 1, 1) := by decide +kernel
theorem dX4_becomeGreedy_93 : decode cX4_becomeGreedy 93 = .ok (.isub, 1) := by decide +kernel
theorem dX4_becomeGreedy_94 : decode cX4_becomeGreedy 94 = .ok (.istore_n 3, 1) := by decide +kernel
theorem dX4_becomeGreedy_95 : decode cX4_becomeGreedy 95 = .ok (.iload_n 3, 1) := by decide +kernel
theorem dX4_becomeGreedy_96 : decode cX4_becomeGreedy 96 = .ok (.aload_n 0, 1) := by decide +kernel
theorem dX4_becomeGreedy_97 : decode cX4_becomeGreedy 97 = .ok (.getfield 36, 3) := by decide +kernel
theorem dX4_becomeGreedy_100 : decode cX4_becomeGreedy 100 = .ok (.getfield 54, 3) := by decide +kernel
theorem dX4_becomeGreedy_103 : decode cX4_becomeGreedy 103 = .ok (.if_icmp .ge 19, 3) := by decide +kernel
theorem dX4_becomeGreedy_106 : decode cX4_becomeGreedy 106 = .ok (.aload_n 0, 1) := by decide +kernel
theorem dX4_becomeGreedy_107 : decode cX4_becomeGreedy 107 = .ok (.getfield 9, 3) := by decide +kernel
theorem dX4_becomeGreedy_110 : decode cX4_becomeGreedy 110 = .ok (.iload_n 3, 1) := by decide +kernel
theorem dX4_becomeGreedy_111 : decode cX4_becomeGreedy 111 = .ok (.iload_n 1, 1) := by decide +kernel
theorem dX4_becomeGreedy_112 : decode cX4_becomeGreedy 112 = .ok (.aload_n 0, 1) := by decide +kernel
theorem dX4_becomeGreedy_113 : decode cX4_becomeGreedy 113 = .ok (.getfield 36, 3) := by decide +kernel
theorem dX4_becomeGreedy_116 : decode cX4_becomeGreedy 116 = .ok (.getfield 64, 3) := by decide +kernel
theorem dX4_becomeGreedy_119 : decode cX4_becomeGreedy 119 = .ok (.irem, 1) := by decide +kernel
theorem dX4_becomeGreedy_120 : decode cX4_becomeGreedy 120 = .ok (.i2b, 1) := by decide +kernel
theorem dX4_becomeGreedy_121 : decode cX4_becomeGreedy 121 = .ok (.bastore, 1) := by decide +kernel
theorem dX4_becomeGreedy_122 : decode cX4_becomeGreedy 122 = .ok (.iinc 2 1, 3) := by decide +kernel
theorem dX4_becomeGreedy_125 : decode cX4_becomeGreedy 125 = .ok (.goto (-82), 3) := by decide +kernel
theorem dX4_becomeGreedy_128 : decode cX4_becomeGreedy 128 = .ok (.aload_n 0, 1) := by decide +kernel
theorem dX4_becomeGreedy_129 : decode cX4_becomeGreedy 129 = .ok (.iconst 1, 1) := by decide +kernel
theorem dX4_becomeGreedy_130 : decode cX4_becomeGreedy 130 = .ok (.putfield 19, 3) := by decide +kernel
theorem dX4_becomeGreedy_133 : decode cX4_becomeGreedy 133 = .ok (.return_, 1) := by decide +kernel
theorem dX4_greatestNew_0 : decode cX4_greatestNew 0 = .ok (.iload_n 1, 1) := by decide +kernel
theorem dX4_greatestNew_1 : decode cX4_greatestNew 1 = .ok (.aload_n 0, 1) := by decide +kernel
theorem dX4_greatestNew_2 : decode cX4_greatestNew 2 = .ok (.getfield 36, 3) := by decide +kernel
theorem dX4_greatestNew_5 : decode cX4_greatestNew 5 = .ok (.getfield 64, 3) := by decide +kernel
theorem dX4_greatestNew_8 : decode cX4_greatestNew 8 = .ok (.iadd, 1) := by decide +kernel
theorem dX4_greatestNew_9 : decode cX4_greatestNew 9 = .ok (.iconst 1, 1) := by decide +kernel
theorem dX4_greatestNew_10 : decode cX4_greatestNew 10 = .ok (.isub, 1) := by decide +kernel
theorem dX4_greatestNew_11 : decode cX4_greatestNew 11 = .ok (.istore_n 2, 1) := by decide +kernel
theorem dX4_greatestNew_12 : decode cX4_greatestNew 12 = .ok (.iload_n 2, 1) := by decide +kernel
theorem dX4_greatestNew_13 : decode cX4_greatestNew 13 = .ok (.iload_n 1, 1) := by decide +kernel
theorem dX4_greatestNew_14 : decode cX4_greatestNew 14 = .ok (.if_icmp .le 19, 3) := by decide +kernel
theorem dX4_greatestNew_17 : decode cX4_greatestNew 17 = .ok (.aload_n 0, 1) := by decide +kernel
theorem dX4_greatestNew_18 : decode cX4_greatestNew 18 = .ok (.getfield 15, 3) := by decide +kernel
theorem dX4_greatestNew_21 : decode cX4_greatestNew 21 = .ok (.iload_n 2, 1) := by decide +kernel
theorem dX4_greatestNew_22 : decode cX4_greatestNew 22 = .ok (.iaload, 1) := by decide +kernel
theorem dX4_greatestNew_23 : decode cX4_greatestNew 23 = .ok (.iconst (-1), 1) := by decide +kernel
theorem dX4_greatestNew_24 : decode cX4_greatestNew 24 = .ok (.if_icmp .eq 9, 3) := by decide +kernel
theorem dX4_greatestNew_27 : decode cX4_greatestNew 27 = .ok (.iinc 2 (-1), 3) := by decide +kernel
theorem dX4_greatestNew_30 : decode cX4_greatestNew 30 = .ok (.goto (-18), 3) := by decide +kernel
theorem dX4_greatestNew_33 : decode cX4_greatestNew 33 = .ok (.iload_n 2, 1) := by decide +kernel
theorem dX4_greatestNew_34 : decode cX4_greatestNew 34 = .ok (.ireturn, 1) := by decide +kernel
theorem dX4_becomeCycle_0 : decode cX4_becomeCycle 0 = .ok (.iconst 0, 1) := by decide +kernel
theorem dX4_becomeCycle_1 : decode cX4_becomeCycle 1 = .ok (.istore_n 2, 1) := by decide +kernel
theorem dX4_becomeCycle_2 : decode cX4_becomeCycle 2 = .ok (.iconst 0, 1) := by decide +kernel
theorem dX4_becomeCycle_3 : decode cX4_becomeCycle 3 = .ok (.istore_n 3, 1) := by decide +kernel
theorem dX4_becomeCycle_4 : decode cX4_becomeCycle 4 = .ok (.iload_n 3, 1) := by decide +kernel
theorem dX4_becomeCycle_5 : decode cX4_becomeCycle 5 = .ok (.aload_n 0, 1) := by decide +kernel
theorem dX4_becomeCycle_6 : decode cX4_becomeCycle 6 = .ok (.getfield 36, 3) := by decide +kernel
theorem dX4_becomeCycle_9 : decode cX4_becomeCycle 9 = .ok (.getfield 54, 3) := by decide +kernel
theorem dX4_becomeCycle_12 : decode cX4_becomeCycle 12 = .ok (.if_icmp .ge 36, 3) := by decide +kernel
theorem dX4_becomeCycle_15 : decode cX4_becomeCycle 15 = .ok (.aload_n 0, 1) := by decide +kernel
theorem dX4_becomeCycle_16 : decode cX4_becomeCycle 16 = .ok (.getfield 9, 3) := by decide +kernel
theorem dX4_becomeCycle_19 : decode cX4_becomeCycle 19 = .ok (.iload_n 3, 1) := by decide +kernel
theorem dX4_becomeCycle_20 : decode cX4_becomeCycle 20 = .ok (.iload_n 2, 1) := by decide +kernel
theorem dX4_becomeCycle_21 : decode cX4_becomeCycle 21 = .ok (.aload_n 0, 1) := by decide +kernel
theorem dX4_becomeCycle_22 : decode cX4_becomeCycle 22 = .ok (.getfield 36, 3) := by decide +kernel
theorem dX4_becomeCycle_25 : decode cX4_becomeCycle 25 = .ok (.getfield 66, 3) := by decide +kernel
theorem dX4_becomeCycle_28 : decode cX4_becomeCycle 28 = .ok (.idiv, 1) := by decide +kernel
theorem dX4_becomeCycle_29 : decode cX4_becomeCycle 29 = .ok (.i2b, 1) := by decide +kernel
theorem dX4_becomeCycle_30 : decode cX4_becomeCycle 30 = .ok (.bastore, 1) := by decide +kernel
theorem dX4_becomeCycle_31 : decode cX4_becomeCycle 31 = .ok (.aload_n 0, 1) := by decide +kernel
theorem dX4_becomeCycle_32 : decode cX4_becomeCycle 32 = .ok (.getfield 15, 3) := by decide +kernel
theorem dX4_becomeCycle_35 : decode cX4_becomeCycle 35 = .ok (.iload_n 2, 1) := by decide +kernel
theorem dX4_becomeCycle_36 : decode cX4_becomeCycle 36 = .ok (.iload_n 3, 1) := by decide +kernel
theorem dX4_becomeCycle_37 : decode cX4_becomeCycle 37 = .ok (.iastore, 1) := by decide +kernel
theorem dX4_becomeCycle_38 : decode cX4_becomeCycle 38 = .ok (.aload_n 1, 1) := by decide +kernel
theorem dX4_becomeCycle_39 : decode cX4_becomeCycle 39 = .ok (.iload_n 2, 1) := by decide +kernel
theorem dX4_becomeCycle_40 : decode cX4_becomeCycle 40 = .ok (.iaload, 1) := by decide +kernel
theorem dX4_becomeCycle_41 : decode cX4_becomeCycle 41 = .ok (.istore_n 2, 1) := by decide +kernel
theorem dX4_becomeCycle_42 : decode cX4_becomeCycle 42 = .ok (.iinc 3 1, 3) := by decide +kernel
theorem dX4_becomeCycle_45 : decode cX4_becomeCycle 45 = .ok (.goto (-41), 3) := by decide +kernel
theorem dX4_becomeCycle_48 : decode cX4_becomeCycle 48 = .ok (.aload_n 0, 1) := by decide +kernel
theorem dX4_becomeCycle_49 : decode cX4_becomeCycle 49 = .ok (.iconst 2, 1) := by decide +kernel
theorem dX4_becomeCycle_50 : decode cX4_becomeCycle 50 = .ok (.putfield 19, 3) := by decide +kernel
theorem dX4_becomeCycle_53 : decode cX4_becomeCycle 53 = .ok (.return_, 1) := by decide +kernel
theorem dX4_writeLetters_0 : decode cX4_writeLetters 0 = .ok (.iload_n 1, 1) := by decide +kernel
theorem dX4_writeLetters_1 : decode cX4_writeLetters 1 = .ok (.istore 5, 2) := by decide +kernel
theorem dX4_writeLetters_3 : decode cX4_writeLetters 3 = .ok (.iconst 0, 1) := by decide +kernel
theorem dX4_writeLetters_4 : decode cX4_writeLetters 4 = .ok (.istore 6, 2) := by decide +kernel
theorem dX4_writeLetters_6 : decode cX4_writeLetters 6 = .ok (.iload 6, 2) := by decide +kernel
theorem dX4_writeLetters_8 : decode cX4_writeLetters 8 = .ok (.iload_n 2, 1) := by decide +kernel
theorem dX4_writeLetters_9 : decode cX4_writeLetters 9 = .ok (.if_icmp .ge 47, 3) := by decide +kernel
theorem dX4_writeLetters_12 : decode cX4_writeLetters 12 = .ok (.aload_n 3, 1) := by decide +kernel
theorem dX4_writeLetters_13 : decode cX4_writeLetters 13 = .ok (.iload 4, 2) := by decide +kernel
theorem dX4_writeLetters_15 : decode cX4_writeLetters 15 = .ok (.iload 6, 2) := by decide +kernel
theorem dX4_writeLetters_17 : decode cX4_writeLetters 17 = .ok (.iadd, 1) := by decide +kernel
theorem dX4_writeLetters_18 : decode cX4_writeLetters 18 = .ok (.aload_n 0, 1) := by decide +kernel
theorem dX4_writeLetters_19 : decode cX4_writeLetters 19 = .ok (.getfield 9, 3) := by decide +kernel
theorem dX4_writeLetters_22 : decode cX4_writeLetters 22 = .ok (.iload 5, 2) := by decide +kernel
theorem dX4_writeLetters_24 : decode cX4_writeLetters 24 = .ok (.baload, 1) := by decide +kernel
theorem dX4_writeLetters_25 : decode cX4_writeLetters 25 = .ok (.iastore, 1) := by decide +kernel
theorem dX4_writeLetters_26 : decode cX4_writeLetters 26 = .ok (.iload 5, 2) := by decide +kernel
theorem dX4_writeLetters_28 : decode cX4_writeLetters 28 = .ok (.iconst 1, 1) := by decide +kernel
theorem dX4_writeLetters_29 : decode cX4_writeLetters 29 = .ok (.iadd, 1) := by decide +kernel
theorem dX4_writeLetters_30 : decode cX4_writeLetters 30 = .ok (.aload_n 0, 1) := by decide +kernel
theorem dX4_writeLetters_31 : decode cX4_writeLetters 31 = .ok (.getfield 36, 3) := by decide +kernel
theorem dX4_writeLetters_34 : decode cX4_writeLetters 34 = .ok (.getfield 54, 3) := by decide +kernel
theorem dX4_writeLetters_37 : decode cX4_writeLetters 37 = .ok (.if_icmp .ge 10, 3) := by decide +kernel
theorem dX4_writeLetters_40 : decode cX4_writeLetters 40 = .ok (.iload 5, 2) := by decide +kernel
theorem dX4_writeLetters_42 : decode cX4_writeLetters 42 = .ok (.iconst 1, 1) := by decide +kernel
theorem dX4_writeLetters_43 : decode cX4_writeLetters 43 = .ok (.iadd, 1) := by decide +kernel
theorem dX4_writeLetters_44 : decode cX4_writeLetters 44 = .ok (.goto 4, 3) := by decide +kernel
theorem dX4_writeLetters_47 : decode cX4_writeLetters 47 = .ok (.iconst 0, 1) := by decide +kernel
theorem dX4_writeLetters_48 : decode cX4_writeLetters 48 = .ok (.istore 5, 2) := by decide +kernel
theorem dX4_writeLetters_50 : decode cX4_writeLetters 50 = .ok (.iinc 6 1, 3) := by decide +kernel
theorem dX4_writeLetters_53 : decode cX4_writeLetters 53 = .ok (.goto (-47), 3) := by decide +kernel
theorem dX4_writeLetters_56 : decode cX4_writeLetters 56 = .ok (.return_, 1) := by decide +kernel
theorem dX4_countMatches_0 : decode cX4_countMatches 0 = .ok (.aload_n 0, 1) := by decide +kernel
theorem dX4_countMatches_1 : decode cX4_countMatches 1 = .ok (.aload_n 1, 1) := by decide +kernel
theorem dX4_countMatches_2 : decode cX4_countMatches 2 = .ok (.iload_n 2, 1) := by decide +kernel
theorem dX4_countMatches_3 : decode cX4_countMatches 3 = .ok (.iload_n 3, 1) := by decide +kernel
theorem dX4_countMatches_4 : decode cX4_countMatches 4 = .ok (.invokevirtual 81, 3) := by decide +kernel
theorem dX4_countMatches_7 : decode cX4_countMatches 7 = .ok (.aload_n 0, 1) := by decide +kernel
theorem dX4_countMatches_8 : decode cX4_countMatches 8 = .ok (.iload_n 3, 1) := by decide +kernel
theorem dX4_countMatches_9 : decode cX4_countMatches 9 = .ok (.invokevirtual 85, 3) := by decide +kernel
theorem dX4_countMatches_12 : decode cX4_countMatches 12 = .ok (.istore 5, 2) := by decide +kernel
theorem dX4_countMatches_14 : decode cX4_countMatches 14 = .ok (.lconst 1, 1) := by decide +kernel
theorem dX4_countMatches_15 : decode cX4_countMatches 15 = .ok (.iload_n 3, 1) := by decide +kernel
theorem dX4_countMatches_16 : decode cX4_countMatches 16 = .ok (.iconst 1, 1) := by decide +kernel
theorem dX4_countMatches_17 : decode cX4_countMatches 17 = .ok (.isub, 1) := by decide +kernel
theorem dX4_countMatches_18 : decode cX4_countMatches 18 = .ok (.lshl, 1) := by decide +kernel
theorem dX4_countMatches_19 : decode cX4_countMatches 19 = .ok (.lstore 6, 2) := by decide +kernel
theorem dX4_countMatches_21 : decode cX4_countMatches 21 = .ok (.iconst 0, 1) := by decide +kernel
theorem dX4_countMatches_22 : decode cX4_countMatches 22 = .ok (.istore 8, 2) := by decide +kernel
theorem dX4_countMatches_24 : decode cX4_countMatches 24 = .ok (.iconst 0, 1) := by decide +kernel
theorem dX4_countMatches_25 : decode cX4_countMatches 25 = .ok (.istore 9, 2) := by decide +kernel
theorem dX4_countMatches_27 : decode cX4_countMatches 27 = .ok (.iload 9, 2) := by decide +kernel
theorem dX4_countMatches_29 : decode cX4_countMatches 29 = .ok (.aload_n 0, 1) := by decide +kernel
theorem dX4_countMatches_30 : decode cX4_countMatches 30 = .ok (.getfield 36, 3) := by decide +kernel
theorem dX4_countMatches_33 : decode cX4_countMatches 33 = .ok (.getfield 54, 3) := by decide +kernel
theorem dX4_countMatches_36 : decode cX4_countMatches 36 = .ok (.if_icmp .ge 140, 3) := by decide +kernel
theorem dX4_countMatches_39 : decode cX4_countMatches 39 = .ok (.lconst 0, 1) := by decide +kernel
theorem dX4_countMatches_40 : decode cX4_countMatches 40 = .ok (.lstore 10, 2) := by decide +kernel
theorem dX4_countMatches_42 : decode cX4_countMatches 42 = .ok (.aload_n 0, 1) := by decide +kernel
theorem dX4_countMatches_43 : decode cX4_countMatches 43 = .ok (.getfield 9, 3) := by decide +kernel
theorem dX4_countMatches_46 : decode cX4_countMatches 46 = .ok (.iload 5, 2) := by decide +kernel
theorem dX4_countMatches_48 : decode cX4_countMatches 48 = .ok (.baload, 1) := by decide +kernel
theorem dX4_countMatches_49 : decode cX4_countMatches 49 = .ok (.istore 12, 2) := by decide +kernel
theorem dX4_countMatches_51 : decode cX4_countMatches 51 = .ok (.iconst 0, 1) := by decide +kernel
theorem dX4_countMatches_52 : decode cX4_countMatches 52 = .ok (.istore 13, 2) := by decide +kernel
theorem dX4_countMatches_54 : decode cX4_countMatches 54 = .ok (.iload 13, 2) := by decide +kernel
theorem dX4_countMatches_56 : decode cX4_countMatches 56 = .ok (.aload_n 0, 1) := by decide +kernel
theorem dX4_countMatches_57 : decode cX4_countMatches 57 = .ok (.getfield 36, 3) := by decide +kernel
theorem dX4_countMatches_60 : decode cX4_countMatches 60 = .ok (.getfield 64, 3) := by decide +kernel
theorem dX4_countMatches_63 : decode cX4_countMatches 63 = .ok (.if_icmp .ge 59, 3) := by decide +kernel
theorem dX4_countMatches_66 : decode cX4_countMatches 66 = .ok (.aload_n 0, 1) := by decide +kernel
theorem dX4_countMatches_67 : decode cX4_countMatches 67 = .ok (.getfield 30, 3) := by decide +kernel
theorem dX4_countMatches_70 : decode cX4_countMatches 70 = .ok (.iload 13, 2) := by decide +kernel
theorem dX4_countMatches_72 : decode cX4_countMatches 72 = .ok (.aload_n 0, 1) := by decide +kernel
theorem dX4_countMatches_73 : decode cX4_countMatches 73 = .ok (.getfield 30, 3) := by decide +kernel
theorem dX4_countMatches_76 : decode cX4_countMatches 76 = .ok (.iload 13, 2) := by decide +kernel
theorem dX4_countMatches_78 : decode cX4_countMatches 78 = .ok (.laload, 1) := by decide +kernel
theorem dX4_countMatches_79 : decode cX4_countMatches 79 = .ok (.iconst 1, 1) := by decide +kernel
theorem dX4_countMatches_80 : decode cX4_countMatches 80 = .ok (.lushr, 1) := by decide +kernel
theorem dX4_countMatches_81 : decode cX4_countMatches 81 = .ok (.iload 13, 2) := by decide +kernel
theorem dX4_countMatches_83 : decode cX4_countMatches 83 = .ok (.iload 12, 2) := by decide +kernel
theorem dX4_countMatches_85 : decode cX4_countMatches 85 = .ok (.if_icmp .ne 8, 3) := by decide +kernel
theorem dX4_countMatches_88 : decode cX4_countMatches 88 = .ok (.lload 6, 2) := by decide +kernel
theorem dX4_countMatches_90 : decode cX4_countMatches 90 = .ok (.goto 4, 3) := by decide +kernel
theorem dX4_countMatches_93 : decode cX4_countMatches 93 = .ok (.lconst 0, 1) := by decide +kernel
theorem dX4_countMatches_94 : decode cX4_countMatches 94 = .ok (.lor, 1) := by decide +kernel
theorem dX4_countMatches_95 : decode cX4_countMatches 95 = .ok (.lastore, 1) := by decide +kernel
theorem dX4_countMatches_96 : decode cX4_countMatches 96 = .ok (.lload 10, 2) := by decide +kernel
theorem dX4_countMatches_98 : decode cX4_countMatches 98 = .ok (.aload_n 0, 1) := by decide +kernel
theorem dX4_countMatches_99 : decode cX4_countMatches 99 = .ok (.getfield 30, 3) := by decide +kernel
theorem dX4_countMatches_102 : decode cX4_countMatches 102 = .ok (.iload 13, 2) := by decide +kernel
theorem dX4_countMatches_104 : decode cX4_countMatches 104 = .ok (.laload, 1) := by decide +kernel
theorem dX4_countMatches_105 : decode cX4_countMatches 105 = .ok (.aload_n 0, 1) := by decide +kernel
theorem dX4_countMatches_106 : decode cX4_countMatches 106 = .ok (.getfield 26, 3) := by decide +kernel
theorem dX4_countMatches_109 : decode cX4_countMatches 109 = .ok (.iload 13, 2) := by decide +kernel
theorem dX4_countMatches_111 : decode cX4_countMatches 111 = .ok (.laload, 1) := by decide +kernel
theorem dX4_countMatches_112 : decode cX4_countMatches 112 = .ok (.land, 1) := by decide +kernel
theorem dX4_countMatches_113 : decode cX4_countMatches 113 = .ok (.lor, 1) := by decide +kernel
theorem dX4_countMatches_114 : decode cX4_countMatches 114 = .ok (.lstore 10, 2) := by decide +kernel
theorem dX4_countMatches_116 : decode cX4_countMatches 116 = .ok (.iinc 13 1, 3) := by decide +kernel
theorem dX4_countMatches_119 : decode cX4_countMatches 119 = .ok (.goto (-65), 3) := by decide +kernel
theorem dX4_countMatches_122 : decode cX4_countMatches 122 = .ok (.iload 5, 2) := by decide +kernel
theorem dX4_countMatches_124 : decode cX4_countMatches 124 = .ok (.iconst 1, 1) := by decide +kernel
theorem dX4_countMatches_125 : decode cX4_countMatches 125 = .ok (.iadd, 1) := by decide +kernel
theorem dX4_countMatches_126 : decode cX4_countMatches 126 = .ok (.aload_n 0, 1) := by decide +kernel
theorem dX4_countMatches_127 : decode cX4_countMatches 127 = .ok (.getfield 36, 3) := by decide +kernel
theorem dX4_countMatches_130 : decode cX4_countMatches 130 = .ok (.getfield 54, 3) := by decide +kernel
theorem dX4_countMatches_133 : decode cX4_countMatches 133 = .ok (.if_icmp .ge 10, 3) := by decide +kernel
theorem dX4_countMatches_136 : decode cX4_countMatches 136 = .ok (.iload 5, 2) := by decide +kernel
theorem dX4_countMatches_138 : decode cX4_countMatches 138 = .ok (.iconst 1, 1) := by decide +kernel
theorem dX4_countMatches_139 : decode cX4_countMatches 139 = .ok (.iadd, 1) := by decide +kernel
theorem dX4_countMatches_140 : decode cX4_countMatches 140 = .ok (.goto 4, 3) := by decide +kernel
theorem dX4_countMatches_143 : decode cX4_countMatches 143 = .ok (.iconst 0, 1) := by decide +kernel
theorem dX4_countMatches_144 : decode cX4_countMatches 144 = .ok (.istore 5, 2) := by decide +kernel
theorem dX4_countMatches_146 : decode cX4_countMatches 146 = .ok (.lload 10, 2) := by decide +kernel
theorem dX4_countMatches_148 : decode cX4_countMatches 148 = .ok (.invokestatic 88, 3) := by decide +kernel
theorem dX4_countMatches_151 : decode cX4_countMatches 151 = .ok (.iload 4, 2) := by decide +kernel
theorem dX4_countMatches_153 : decode cX4_countMatches 153 = .ok (.if_icmp .gt 17, 3) := by decide +kernel
theorem dX4_countMatches_156 : decode cX4_countMatches 156 = .ok (.iload 8, 2) := by decide +kernel
theorem dX4_countMatches_158 : decode cX4_countMatches 158 = .ok (.ifCond .ne 9, 3) := by decide +kernel
theorem dX4_countMatches_161 : decode cX4_countMatches 161 = .ok (.aload_n 0, 1) := by decide +kernel
theorem dX4_countMatches_162 : decode cX4_countMatches 162 = .ok (.iload 9, 2) := by decide +kernel
theorem dX4_countMatches_164 : decode cX4_countMatches 164 = .ok (.putfield 33, 3) := by decide +kernel
theorem dX4_countMatches_167 : decode cX4_countMatches 167 = .ok (.iinc 8 1, 3) := by decide +kernel
theorem dX4_countMatches_170 : decode cX4_countMatches 170 = .ok (.iinc 9 1, 3) := by decide +kernel
theorem dX4_countMatches_173 : decode cX4_countMatches 173 = .ok (.goto (-146), 3) := by decide +kernel
theorem dX4_countMatches_176 : decode cX4_countMatches 176 = .ok (.iload 8, 2) := by decide +kernel
theorem dX4_countMatches_178 : decode cX4_countMatches 178 = .ok (.ireturn, 1) := by decide +kernel
theorem dX4_noteSlips_0 : decode cX4_noteSlips 0 = .ok (.aload_n 0, 1) := by decide +kernel
theorem dX4_noteSlips_1 : decode cX4_noteSlips 1 = .ok (.getfield 26, 3) := by decide +kernel
theorem dX4_noteSlips_4 : decode cX4_noteSlips 4 = .ok (.lconst 0, 1) := by decide +kernel
theorem dX4_noteSlips_5 : decode cX4_noteSlips 5 = .ok (.invokestatic 94, 3) := by decide +kernel
theorem dX4_noteSlips_8 : decode cX4_noteSlips 8 = .ok (.iconst 0, 1) := by decide +kernel
theorem dX4_noteSlips_9 : decode cX4_noteSlips 9 = .ok (.istore 4, 2) := by decide +kernel
theorem dX4_noteSlips_11 : decode cX4_noteSlips 11 = .ok (.iload 4, 2) := by decide +kernel
theorem dX4_noteSlips_13 : decode cX4_noteSlips 13 = .ok (.iload_n 3, 1) := by decide +kernel
theorem dX4_noteSlips_14 : decode cX4_noteSlips 14 = .ok (.if_icmp .ge 71, 3) := by decide +kernel
theorem dX4_noteSlips_17 : decode cX4_noteSlips 17 = .ok (.aload_n 1, 1) := by decide +kernel
theorem dX4_noteSlips_18 : decode cX4_noteSlips 18 = .ok (.iload_n 2, 1) := by decide +kernel
theorem dX4_noteSlips_19 : decode cX4_noteSlips 19 = .ok (.iload 4, 2) := by decide +kernel
theorem dX4_noteSlips_21 : decode cX4_noteSlips 21 = .ok (.iadd, 1) := by decide +kernel
theorem dX4_noteSlips_22 : decode cX4_noteSlips 22 = .ok (.iaload, 1) := by decide +kernel
theorem dX4_noteSlips_23 : decode cX4_noteSlips 23 = .ok (.istore 5, 2) := by decide +kernel
theorem dX4_noteSlips_25 : decode cX4_noteSlips 25 = .ok (.iconst 0, 1) := by decide +kernel
theorem dX4_noteSlips_26 : decode cX4_noteSlips 26 = .ok (.istore 6, 2) := by decide +kernel
theorem dX4_noteSlips_28 : decode cX4_noteSlips 28 = .ok (.iload 6, 2) := by decide +kernel
theorem dX4_noteSlips_30 : decode cX4_noteSlips 30 = .ok (.aload_n 0, 1) := by decide +kernel
theorem dX4_noteSlips_31 : decode cX4_noteSlips 31 = .ok (.getfield 36, 3) := by decide +kernel
theorem dX4_noteSlips_34 : decode cX4_noteSlips 34 = .ok (.getfield 64, 3) := by decide +kernel
theorem dX4_noteSlips_37 : decode cX4_noteSlips 37 = .ok (.if_icmp .ge 42, 3) := by decide +kernel
theorem dX4_noteSlips_40 : decode cX4_noteSlips 40 = .ok (.aload_n 0, 1) := by decide +kernel
theorem dX4_noteSlips_41 : decode cX4_noteSlips 41 = .ok (.getfield 36, 3) := by decide +kernel
theorem dX4_noteSlips_44 : decode cX4_noteSlips 44 = .ok (.iload 5, 2) := by decide +kernel
theorem dX4_noteSlips_46 : decode cX4_noteSlips 46 = .ok (.invokevirtual 97, 3) := by decide +kernel
theorem dX4_noteSlips_49 : decode cX4_noteSlips 49 = .ok (.ifCond .eq 30, 3) := by decide +kernel
theorem dX4_noteSlips_52 : decode cX4_noteSlips 52 = .ok (.iload 6, 2) := by decide +kernel
theorem dX4_noteSlips_54 : decode cX4_noteSlips 54 = .ok (.iload 5, 2) := by decide +kernel
theorem dX4_noteSlips_56 : decode cX4_noteSlips 56 = .ok (.if_icmp .eq 17, 3) := by decide +kernel
theorem dX4_noteSlips_59 : decode cX4_noteSlips 59 = .ok (.aload_n 0, 1) := by decide +kernel
theorem dX4_noteSlips_60 : decode cX4_noteSlips 60 = .ok (.getfield 26, 3) := by decide +kernel
theorem dX4_noteSlips_63 : decode cX4_noteSlips 63 = .ok (.iload 6, 2) := by decide +kernel
theorem dX4_noteSlips_65 : decode cX4_noteSlips 65 = .ok (.dup2, 1) := by decide +kernel
theorem dX4_noteSlips_66 : decode cX4_noteSlips 66 = .ok (.laload, 1) := by decide +kernel
theorem dX4_noteSlips_67 : decode cX4_noteSlips 67 = .ok (.lconst 1, 1) := by decide +kernel
theorem dX4_noteSlips_68 : decode cX4_noteSlips 68 = .ok (.iload 4, 2) := by decide +kernel
theorem dX4_noteSlips_70 : decode cX4_noteSlips 70 = .ok (.lshl, 1) := by decide +kernel
theorem dX4_noteSlips_71 : decode cX4_noteSlips 71 = .ok (.lor, 1) := by decide +kernel
theorem dX4_noteSlips_72 : decode cX4_noteSlips 72 = .ok (.lastore, 1) := by decide +kernel
theorem dX4_noteSlips_73 : decode cX4_noteSlips 73 = .ok (.iinc 6 1, 3) := by decide +kernel
theorem dX4_noteSlips_76 : decode cX4_noteSlips 76 = .ok (.goto (-48), 3) := by decide +kernel
theorem dX4_noteSlips_79 : decode cX4_noteSlips 79 = .ok (.iinc 4 1, 3) := by decide +kernel
theorem dX4_noteSlips_82 : decode cX4_noteSlips 82 = .ok (.goto (-71), 3) := by decide +kernel
theorem dX4_noteSlips_85 : decode cX4_noteSlips 85 = .ok (.return_, 1) := by decide +kernel
theorem dX4_noteFirstPlaces_0 : decode cX4_noteFirstPlaces 0 = .ok (.aload_n 0, 1) := by decide +kernel
theorem dX4_noteFirstPlaces_1 : decode cX4_noteFirstPlaces 1 = .ok (.getfield 30, 3) := by decide +kernel
theorem dX4_noteFirstPlaces_4 : decode cX4_noteFirstPlaces 4 = .ok (.lconst 0, 1) := by decide +kernel
theorem dX4_noteFirstPlaces_5 : decode cX4_noteFirstPlaces 5 = .ok (.invokestatic 94, 3) := by decide +kernel
theorem dX4_noteFirstPlaces_8 : decode cX4_noteFirstPlaces 8 = .ok (.iconst 0, 1) := by decide +kernel
theorem dX4_noteFirstPlaces_9 : decode cX4_noteFirstPlaces 9 = .ok (.istore_n 2, 1) := by decide +kernel
theorem dX4_noteFirstPlaces_10 : decode cX4_noteFirstPlaces 10 = .ok (.iconst 1, 1) := by decide +kernel
theorem dX4_noteFirstPlaces_11 : decode cX4_noteFirstPlaces 11 = .ok (.istore_n 3, 1) := by decide +kernel
theorem dX4_noteFirstPlaces_12 : decode cX4_noteFirstPlaces 12 = .ok (.iload_n 3, 1) := by decide +kernel
theorem dX4_noteFirstPlaces_13 : decode cX4_noteFirstPlaces 13 = .ok (.iload_n 1, 1) := by decide +kernel
theorem dX4_noteFirstPlaces_14 : decode cX4_noteFirstPlaces 14 = .ok (.if_icmp .ge 47, 3) := by decide +kernel
theorem dX4_noteFirstPlaces_17 : decode cX4_noteFirstPlaces 17 = .ok (.aload_n 0, 1) := by decide +kernel
theorem dX4_noteFirstPlaces_18 : decode cX4_noteFirstPlaces 18 = .ok (.getfield 30, 3) := by decide +kernel
theorem dX4_noteFirstPlaces_21 : decode cX4_noteFirstPlaces 21 = .ok (.aload_n 0, 1) := by decide +kernel
theorem dX4_noteFirstPlaces_22 : decode cX4_noteFirstPlaces 22 = .ok (.getfield 9, 3) := by decide +kernel
theorem dX4_noteFirstPlaces_25 : decode cX4_noteFirstPlaces 25 = .ok (.iload_n 2, 1) := by decide +kernel
theorem dX4_noteFirstPlaces_26 : decode cX4_noteFirstPlaces 26 = .ok (.baload, 1) := by decide +kernel
theorem dX4_noteFirstPlaces_27 : decode cX4_noteFirstPlaces 27 = .ok (.dup2, 1) := by decide +kernel
theorem dX4_noteFirstPlaces_28 : decode cX4_noteFirstPlaces 28 = .ok (.laload, 1) := by decide +kernel
theorem dX4_noteFirstPlaces_29 : decode cX4_noteFirstPlaces 29 = .ok (.lconst 1, 1) := by decide +kernel
theorem dX4_noteFirstPlaces_30 : decode cX4_noteFirstPlaces 30 = .ok (.iload_n 3, 1) := by decide +kernel
theorem dX4_noteFirstPlaces_31 : decode cX4_noteFirstPlaces 31 = .ok (.lshl, 1) := by decide +kernel
theorem dX4_noteFirstPlaces_32 : decode cX4_noteFirstPlaces 32 = .ok (.lor, 1) := by decide +kernel
theorem dX4_noteFirstPlaces_33 : decode cX4_noteFirstPlaces 33 = .ok (.lastore, 1) := by decide +kernel
theorem dX4_noteFirstPlaces_34 : decode cX4_noteFirstPlaces 34 = .ok (.iload_n 2, 1) := by decide +kernel
theorem dX4_noteFirstPlaces_35 : decode cX4_noteFirstPlaces 35 = .ok (.iconst 1, 1) := by decide +kernel
theorem dX4_noteFirstPlaces_36 : decode cX4_noteFirstPlaces 36 = .ok (.iadd, 1) := by decide +kernel
theorem dX4_noteFirstPlaces_37 : decode cX4_noteFirstPlaces 37 = .ok (.aload_n 0, 1) := by decide +kernel
theorem dX4_noteFirstPlaces_38 : decode cX4_noteFirstPlaces 38 = .ok (.getfield 36, 3) := by decide +kernel
theorem dX4_noteFirstPlaces_41 : decode cX4_noteFirstPlaces 41 = .ok (.getfield 54, 3) := by decide +kernel
theorem dX4_noteFirstPlaces_44 : decode cX4_noteFirstPlaces 44 = .ok (.if_icmp .ge 9, 3) := by decide +kernel
theorem dX4_noteFirstPlaces_47 : decode cX4_noteFirstPlaces 47 = .ok (.iload_n 2, 1) := by decide +kernel
theorem dX4_noteFirstPlaces_48 : decode cX4_noteFirstPlaces 48 = .ok (.iconst 1, 1) := by decide +kernel
theorem dX4_noteFirstPlaces_49 : decode cX4_noteFirstPlaces 49 = .ok (.iadd, 1) := by decide +kernel
theorem dX4_noteFirstPlaces_50 : decode cX4_noteFirstPlaces 50 = .ok (.goto 4, 3) := by decide +kernel
theorem dX4_noteFirstPlaces_53 : decode cX4_noteFirstPlaces 53 = .ok (.iconst 0, 1) := by decide +kernel
theorem dX4_noteFirstPlaces_54 : decode cX4_noteFirstPlaces 54 = .ok (.istore_n 2, 1) := by decide +kernel
theorem dX4_noteFirstPlaces_55 : decode cX4_noteFirstPlaces 55 = .ok (.iinc 3 1, 3) := by decide +kernel
theorem dX4_noteFirstPlaces_58 : decode cX4_noteFirstPlaces 58 = .ok (.goto (-46), 3) := by decide +kernel
theorem dX4_noteFirstPlaces_61 : decode cX4_noteFirstPlaces 61 = .ok (.iload_n 2, 1) := by decide +kernel
theorem dX4_noteFirstPlaces_62 : decode cX4_noteFirstPlaces 62 = .ok (.ireturn, 1) := by decide +kernel
theorem dX5_init_0 : decode cX5_init 0 = .ok (.aload_n 0, 1) := by decide +kernel
theorem dX5_init_1 : decode cX5_init 1 = .ok (.invokespecial 3, 3) := by decide +kernel
theorem dX5_init_4 : decode cX5_init 4 = .ok (.aload_n 0, 1) := by decide +kernel
theorem dX5_init_5 : decode cX5_init 5 = .ok (.sipush 200, 3) := by decide +kernel
theorem dX5_init_8 : decode cX5_init 8 = .ok (.newarray .int, 2) := by decide +kernel
theorem dX5_init_10 : decode cX5_init 10 = .ok (.putfield 9, 3) := by decide +kernel
theorem dX5_init_13 : decode cX5_init 13 = .ok (.aload_n 0, 1) := by decide +kernel
theorem dX5_init_14 : decode cX5_init 14 = .ok (.iconst (-1), 1) := by decide +kernel
theorem dX5_init_15 : decode cX5_init 15 = .ok (.putfield 15, 3) := by decide +kernel
theorem dX5_init_18 : decode cX5_init 18 = .ok (.aload_n 0, 1) := by decide +kernel
theorem dX5_init_19 : decode cX5_init 19 = .ok (.sipush 200, 3) := by decide +kernel
theorem dX5_init_22 : decode cX5_init 22 = .ok (.newarray .int, 2) := by decide +kernel
theorem dX5_init_24 : decode cX5_init 24 = .ok (.putfield 19, 3) := by decide +kernel
theorem dX5_init_27 : decode cX5_init 27 = .ok (.aload_n 0, 1) := by decide +kernel
theorem dX5_init_28 : decode cX5_init 28 = .ok (.aload_n 1, 1) := by decide +kernel
theorem dX5_init_29 : decode cX5_init 29 = .ok (.putfield 22, 3) := by decide +kernel
theorem dX5_init_32 : decode cX5_init 32 = .ok (.return_, 1) := by decide +kernel
theorem dX5_isLost_0 : decode cX5_isLost 0 = .ok (.aload_n 0, 1) := by decide +kernel
theorem dX5_isLost_1 : decode cX5_isLost 1 = .ok (.getfield 15, 3) := by decide +kernel
theorem dX5_isLost_4 : decode cX5_isLost 4 = .ok (.iconst (-1), 1) := by decide +kernel
theorem dX5_isLost_5 : decode cX5_isLost 5 = .ok (.if_icmp .ne 7, 3) := by decide +kernel
theorem dX5_isLost_8 : decode cX5_isLost 8 = .ok (.iconst 1, 1) := by decide +kernel
theorem dX5_isLost_9 : decode cX5_isLost 9 = .ok (.goto 4, 3) := by decide +kernel
theorem dX5_isLost_12 : decode cX5_isLost 12 = .ok (.iconst 0, 1) := by decide +kernel
theorem dX5_isLost_13 : decode cX5_isLost 13 = .ok (.ireturn, 1) := by decide +kernel
theorem dX5_begin_0 : decode cX5_begin 0 = .ok (.aload_n 0, 1) := by decide +kernel
theorem dX5_begin_1 : decode cX5_begin 1 = .ok (.iload_n 1, 1) := by decide +kernel
theorem dX5_begin_2 : decode cX5_begin 2 = .ok (.putfield 15, 3) := by decide +kernel
theorem dX5_begin_5 : decode cX5_begin 5 = .ok (.aload_n 0, 1) := by decide +kernel
theorem dX5_begin_6 : decode cX5_begin 6 = .ok (.iload_n 2, 1) := by decide +kernel
theorem dX5_begin_7 : decode cX5_begin 7 = .ok (.putfield 26, 3) := by decide +kernel
theorem dX5_begin_10 : decode cX5_begin 10 = .ok (.aload_n 0, 1) := by decide +kernel
theorem dX5_begin_11 : decode cX5_begin 11 = .ok (.getfield 9, 3) := by decide +kernel
theorem dX5_begin_14 : decode cX5_begin 14 = .ok (.iconst 0, 1) := by decide +kernel
theorem dX5_begin_15 : decode cX5_begin 15 = .ok (.iload_n 2, 1) := by decide +kernel
theorem dX5_begin_16 : decode cX5_begin 16 = .ok (.iconst 0, 1) := by decide +kernel
theorem dX5_begin_17 : decode cX5_begin 17 = .ok (.invokestatic 29, 3) := by decide +kernel
theorem dX5_begin_20 : decode cX5_begin 20 = .ok (.return_, 1) := by decide +kernel
theorem dX5_drop_0 : decode cX5_drop 0 = .ok (.aload_n 0, 1) := by decide +kernel
theorem dX5_drop_1 : decode cX5_drop 1 = .ok (.iconst (-1), 1) := by decide +kernel
theorem dX5_drop_2 : decode cX5_drop 2 = .ok (.putfield 15, 3) := by decide +kernel
theorem dX5_drop_5 : decode cX5_drop 5 = .ok (.aload_n 0, 1) := by decide +kernel
theorem dX5_drop_6 : decode cX5_drop 6 = .ok (.getfield 26, 3) := by decide +kernel
theorem dX5_drop_9 : decode cX5_drop 9 = .ok (.ireturn, 1) := by decide +kernel
theorem dX5_hasItems_0 : decode cX5_hasItems 0 = .ok (.iload_n 1, 1) := by decide +kernel
theorem dX5_hasItems_1 : decode cX5_hasItems 1 = .ok (.ifCond .lt 21, 3) := by decide +kernel
theorem dX5_hasItems_4 : decode cX5_hasItems 4 = .ok (.iload_n 2, 1) := by decide +kernel
theorem dX5_hasItems_5 : decode cX5_hasItems 5 = .ok (.ifCond .lt 17, 3) := by decide +kernel
theorem dX5_hasItems_8 : decode cX5_hasItems 8 = .ok (.iload_n 1, 1) := by decide +kernel
theorem dX5_hasItems_9 : decode cX5_hasItems 9 = .ok (.aload_n 0, 1) := by decide +kernel
theorem dX5_hasItems_10 : decode cX5_hasItems 10 = .ok (.getfield 26, 3) := by decide +kernel
theorem dX5_hasItems_13 : decode cX5_hasItems 13 = .ok (.iload_n 2, 1) := by decide +kernel
theorem dX5_hasItems_14 : decode cX5_hasItems 14 = .ok (.isub, 1) := by decide +kernel
theorem dX5_hasItems_15 : decode cX5_hasItems 15 = .ok (.if_icmp .gt 7, 3) := by decide +kernel
theorem dX5_hasItems_18 : decode cX5_hasItems 18 = .ok (.iconst 1, 1) := by decide +kernel
theorem dX5_hasItems_19 : decode cX5_hasItems 19 = .ok (.goto 4, 3) := by decide +kernel
theorem dX5_hasItems_22 : decode cX5_hasItems 22 = .ok (.iconst 0, 1) := by decide +kernel
theorem dX5_hasItems_23 : decode cX5_hasItems 23 = .ok (.ireturn, 1) := by decide +kernel
theorem dX5_fitted_0 : decode cX5_fitted 0 = .ok (.aload_n 0, 1) := by decide +kernel
theorem dX5_fitted_1 : decode cX5_fitted 1 = .ok (.getfield 15, 3) := by decide +kernel
theorem dX5_fitted_4 : decode cX5_fitted 4 = .ok (.lookupswitch 34 #[(0, 28), (1, 31)], 28) := by decide +kernel
theorem dX5_fitted_32 : decode cX5_fitted 32 = .ok (.iload_n 1, 1) := by decide +kernel
theorem dX5_fitted_33 : decode cX5_fitted 33 = .ok (.i2b, 1) := by decide +kernel
theorem dX5_fitted_34 : decode cX5_fitted 34 = .ok (.ireturn, 1) := by decide +kernel
theorem dX5_fitted_35 : decode cX5_fitted 35 = .ok (.iload_n 1, 1) := by decide +kernel
theorem dX5_fitted_36 : decode cX5_fitted 36 = .ok (.i2c, 1) := by decide +kernel
theorem dX5_fitted_37 : decode cX5_fitted 37 = .ok (.ireturn, 1) := by decide +kernel
theorem dX5_fitted_38 : decode cX5_fitted 38 = .ok (.iload_n 1, 1) := by decide +kernel
theorem dX5_fitted_39 : decode cX5_fitted 39 = .ok (.i2s, 1) := by decide +kernel
theorem dX5_fitted_40 : decode cX5_fitted 40 = .ok (.ireturn, 1) := by decide +kernel
theorem dX5_hasBlanks_0 : decode cX5_hasBlanks 0 = .ok (.iconst 0, 1) := by decide +kernel
theorem dX5_hasBlanks_1 : decode cX5_hasBlanks 1 = .ok (.istore_n 1, 1) := by decide +kernel
theorem dX5_hasBlanks_2 : decode cX5_hasBlanks 2 = .ok (.iload_n 1, 1) := by decide +kernel
theorem dX5_hasBlanks_3 : decode cX5_hasBlanks 3 = .ok (.aload_n 0, 1) := by decide +kernel
theorem dX5_hasBlanks_4 : decode cX5_hasBlanks 4 = .ok (.getfield 26, 3) := by decide +kernel
theorem dX5_hasBlanks_7 : decode cX5_hasBlanks 7 = .ok (.if_icmp .ge 27, 3) := by decide +kernel
theorem dX5_hasBlanks_10 : decode cX5_hasBlanks 10 = .ok (.aload_n 0, 1) := by decide +kernel
theorem dX5_hasBlanks_11 : decode cX5_hasBlanks 11 = .ok (.getfield 22, 3) := by decide +kernel
theorem dX5_hasBlanks_14 : decode cX5_hasBlanks 14 = .ok (.aload_n 0, 1) := by decide +kernel
theorem dX5_hasBlanks_15 : decode cX5_hasBlanks 15 = .ok (.getfield 9, 3) := by decide +kernel
theorem dX5_hasBlanks_18 : decode cX5_hasBlanks 18 = .ok (.iload_n 1, 1) := by decide +kernel
theorem dX5_hasBlanks_19 : decode cX5_hasBlanks 19 = .ok (.iaload, 1) := by decide +kernel
theorem dX5_hasBlanks_20 : decode cX5_hasBlanks 20 = .ok (.invokevirtual 35, 3) := by decide +kernel
theorem dX5_hasBlanks_23 : decode cX5_hasBlanks 23 = .ok (.ifCond .ne 5, 3) := by decide +kernel
theorem dX5_hasBlanks_26 : decode cX5_hasBlanks 26 = .ok (.iconst 1, 1) := by decide +kernel
theorem dX5_hasBlanks_27 : decode cX5_hasBlanks 27 = .ok (.ireturn, 1) := by decide +kernel
theorem dX5_hasBlanks_28 : decode cX5_hasBlanks 28 = .ok (.iinc 1 1, 3) := by decide +kernel
theorem dX5_hasBlanks_31 : decode cX5_hasBlanks 31 = .ok (.goto (-29), 3) := by decide +kernel
theorem dX5_hasBlanks_34 : decode cX5_hasBlanks 34 = .ok (.iconst 0, 1) := by decide +kernel
theorem dX5_hasBlanks_35 : decode cX5_hasBlanks 35 = .ok (.ireturn, 1) := by decide +kernel
theorem dX5_firstRepeated_0 : decode cX5_firstRepeated 0 = .ok (.iconst 0, 1) := by decide +kernel
theorem dX5_firstRepeated_1 : decode cX5_firstRepeated 1 = .ok (.istore_n 1, 1) := by decide +kernel
theorem dX5_firstRepeated_2 : decode cX5_firstRepeated 2 = .ok (.iload_n 1, 1) := by decide +kernel
theorem dX5_firstRepeated_3 : decode cX5_firstRepeated 3 = .ok (.aload_n 0, 1) := by decide +kernel
theorem dX5_firstRepeated_4 : decode cX5_firstRepeated 4 = .ok (.getfield 26, 3) := by decide +kernel
theorem dX5_firstRepeated_7 : decode cX5_firstRepeated 7 = .ok (.if_icmp .ge 50, 3) := by decide +kernel
theorem dX5_firstRepeated_10 : decode cX5_firstRepeated 10 = .ok (.aload_n 0, 1) := by decide +kernel
theorem dX5_firstRepeated_11 : decode cX5_firstRepeated 11 = .ok (.getfield 19, 3) := by decide +kernel
theorem dX5_firstRepeated_14 : decode cX5_firstRepeated 14 = .ok (.iload_n 1, 1) := by decide +kernel
theorem dX5_firstRepeated_15 : decode cX5_firstRepeated 15 = .ok (.aload_n 0, 1) := by decide +kernel
theorem dX5_firstRepeated_16 : decode cX5_firstRepeated 16 = .ok (.iload_n 1, 1) := by decide +kernel
theorem dX5_firstRepeated_17 : decode cX5_firstRepeated 17 = .ok (.invokevirtual 41, 3) := by decide +kernel
theorem dX5_firstRepeated_20 : decode cX5_firstRepeated 20 = .ok (.iastore, 1) := by decide +kernel
theorem dX5_firstRepeated_21 : decode cX5_firstRepeated 21 = .ok (.iconst 0, 1) := by decide +kernel
theorem dX5_firstRepeated_22 : decode cX5_firstRepeated 22 = .ok (.istore_n 2, 1) := by decide +kernel
theorem dX5_firstRepeated_23 : decode cX5_firstRepeated 23 = .ok (.iload_n 2, 1) := by decide +kernel
theorem dX5_firstRepeated_24 : decode cX5_firstRepeated 24 = .ok (.iload_n 1, 1) := by decide +kernel
theorem dX5_firstRepeated_25 : decode cX5_firstRepeated 25 = .ok (.if_icmp .ge 26, 3) := by decide +kernel
theorem dX5_firstRepeated_28 : decode cX5_firstRepeated 28 = .ok (.aload_n 0, 1) := by decide +kernel
theorem dX5_firstRepeated_29 : decode cX5_firstRepeated 29 = .ok (.getfield 19, 3) := by decide +kernel
theorem dX5_firstRepeated_32 : decode cX5_firstRepeated 32 = .ok (.iload_n 2, 1) := by decide +kernel
theorem dX5_firstRepeated_33 : decode cX5_firstRepeated 33 = .ok (.iaload, 1) := by decide +kernel
theorem dX5_firstRepeated_34 : decode cX5_firstRepeated 34 = .ok (.aload_n 0, 1) := by decide +kernel
theorem dX5_firstRepeated_35 : decode cX5_firstRepeated 35 = .ok (.getfield 19, 3) := by decide +kernel
theorem dX5_firstRepeated_38 : decode cX5_firstRepeated 38 = .ok (.iload_n 1, 1) := by decide +kernel
theorem dX5_firstRepeated_39 : decode cX5_firstRepeated 39 = .ok (.iaload, 1) := by decide +kernel
theorem dX5_firstRepeated_40 : decode cX5_firstRepeated 40 = .ok (.if_icmp .ne 5, 3) := by decide +kernel
theorem dX5_firstRepeated_43 : decode cX5_firstRepeated 43 = .ok (.iload_n 1, 1) := by decide +kernel
theorem dX5_firstRepeated_44 : decode cX5_firstRepeated 44 = .ok (.ireturn, 1) := by decide +kernel
theorem dX5_firstRepeated_45 : decode cX5_firstRepeated 45 = .ok (.iinc 2 1, 3) := by decide +kernel
theorem dX5_firstRepeated_48 : decode cX5_firstRepeated 48 = .ok (.goto (-25), 3) := by decide +kernel
theorem dX5_firstRepeated_51 : decode cX5_firstRepeated 51 = .ok (.iinc 1 1, 3) := by decide +kernel
theorem dX5_firstRepeated_54 : decode cX5_firstRepeated 54 = .ok (.goto (-52), 3) := by decide +kernel
theorem dX5_firstRepeated_57 : decode cX5_firstRepeated 57 = .ok (.iconst (-1), 1) := by decide +kernel
theorem dX5_firstRepeated_58 : decode cX5_firstRepeated 58 = .ok (.ireturn, 1) := by decide +kernel
theorem dX5_wordAt_0 : decode cX5_wordAt 0 = .ok (.iconst 0, 1) := by decide +kernel
theorem dX5_wordAt_1 : decode cX5_wordAt 1 = .ok (.istore_n 2, 1) := by decide +kernel
theorem dX5_wordAt_2 : decode cX5_wordAt 2 = .ok (.iload_n 1, 1) := by decide +kernel
theorem dX5_wordAt_3 : decode cX5_wordAt 3 = .ok (.istore_n 3, 1) := by decide +kernel
theorem dX5_wordAt_4 : decode cX5_wordAt 4 = .ok (.iconst 0, 1) := by decide +kernel
theorem dX5_wordAt_5 : decode cX5_wordAt 5 = .ok (.istore 4, 2) := by decide +kernel
theorem dX5_wordAt_7 : decode cX5_wordAt 7 = .ok (.iload 4, 2) := by decide +kernel
theorem dX5_wordAt_9 : decode cX5_wordAt 9 = .ok (.aload_n 0, 1) := by decide +kernel
theorem dX5_wordAt_10 : decode cX5_wordAt 10 = .ok (.getfield 22, 3) := by decide +kernel
theorem dX5_wordAt_13 : decode cX5_wordAt 13 = .ok (.getfield 45, 3) := by decide +kernel
theorem dX5_wordAt_16 : decode cX5_wordAt 16 = .ok (.if_icmp .ge 44, 3) := by decide +kernel
theorem dX5_wordAt_19 : decode cX5_wordAt 19 = .ok (.iload_n 2, 1) := by decide +kernel
theorem dX5_wordAt_20 : decode cX5_wordAt 20 = .ok (.aload_n 0, 1) := by decide +kernel
theorem dX5_wordAt_21 : decode cX5_wordAt 21 = .ok (.getfield 22, 3) := by decide +kernel
theorem dX5_wordAt_24 : decode cX5_wordAt 24 = .ok (.getfield 46, 3) := by decide +kernel
theorem dX5_wordAt_27 : decode cX5_wordAt 27 = .ok (.imul, 1) := by decide +kernel
theorem dX5_wordAt_28 : decode cX5_wordAt 28 = .ok (.aload_n 0, 1) := by decide +kernel
theorem dX5_wordAt_29 : decode cX5_wordAt 29 = .ok (.getfield 9, 3) := by decide +kernel
theorem dX5_wordAt_32 : decode cX5_wordAt 32 = .ok (.iload_n 3, 1) := by decide +kernel
theorem dX5_wordAt_33 : decode cX5_wordAt 33 = .ok (.iaload, 1) := by decide +kernel
theorem dX5_wordAt_34 : decode cX5_wordAt 34 = .ok (.iadd, 1) := by decide +kernel
theorem dX5_wordAt_35 : decode cX5_wordAt 35 = .ok (.istore_n 2, 1) := by decide +kernel
theorem dX5_wordAt_36 : decode cX5_wordAt 36 = .ok (.iload_n 3, 1) := by decide +kernel
theorem dX5_wordAt_37 : decode cX5_wordAt 37 = .ok (.iconst 1, 1) := by decide +kernel
theorem dX5_wordAt_38 : decode cX5_wordAt 38 = .ok (.iadd, 1) := by decide +kernel
theorem dX5_wordAt_39 : decode cX5_wordAt 39 = .ok (.aload_n 0, 1) := by decide +kernel
theorem dX5_wordAt_40 : decode cX5_wordAt 40 = .ok (.getfield 26, 3) := by decide +kernel
theorem dX5_wordAt_43 : decode cX5_wordAt 43 = .ok (.if_icmp .ge 9, 3) := by decide +kernel
theorem dX5_wordAt_46 : decode cX5_wordAt 46 = .ok (.iload_n 3, 1) := by decide +kernel
theorem dX5_wordAt_47 : decode cX5_wordAt 47 = .ok (.iconst 1, 1) := by decide +kernel
theorem dX5_wordAt_48 : decode cX5_wordAt 48 = .ok (.iadd, 1) := by decide +kernel
theorem dX5_wordAt_49 : decode cX5_wordAt 49 = .ok (.goto 4, 3) := by decide +kernel
theorem dX5_wordAt_52 : decode cX5_wordAt 52 = .ok (.iconst 0, 1) := by decide +kernel
theorem dX5_wordAt_53 : decode cX5_wordAt 53 = .ok (.istore_n 3, 1) := by decide +kernel
theorem dX5_wordAt_54 : decode cX5_wordAt 54 = .ok (.iinc 4 1, 3) := by decide +kernel
theorem dX5_wordAt_57 : decode cX5_wordAt 57 = .ok (.goto (-50), 3) := by decide +kernel
theorem dX5_wordAt_60 : decode cX5_wordAt 60 = .ok (.iload_n 2, 1) := by decide +kernel
theorem dX5_wordAt_61 : decode cX5_wordAt 61 = .ok (.ireturn, 1) := by decide +kernel
theorem dX6_init_0 : decode cX6_init 0 = .ok (.aload_n 0, 1) := by decide +kernel
theorem dX6_init_1 : decode cX6_init 1 = .ok (.invokespecial 3, 3) := by decide +kernel
theorem dX6_init_4 : decode cX6_init 4 = .ok (.aload_n 0, 1) := by decide +kernel
theorem dX6_init_5 : decode cX6_init 5 = .ok (.bipush 15, 2) := by decide +kernel
theorem dX6_init_7 : decode cX6_init 7 = .ok (.newarray .int, 2) := by decide +kernel
theorem dX6_init_9 : decode cX6_init 9 = .ok (.putfield 9, 3) := by decide +kernel
theorem dX6_init_12 : decode cX6_init 12 = .ok (.aload_n 0, 1) := by decide +kernel
theorem dX6_init_13 : decode cX6_init 13 = .ok (.iconst 2, 1) := by decide +kernel
theorem dX6_init_14 : decode cX6_init 14 = .ok (.iconst 3, 1) := by decide +kernel
theorem dX6_init_15 : decode cX6_init 15 = .ok (.invokevirtual 15, 3) := by decide +kernel
theorem dX6_init_18 : decode cX6_init 18 = .ok (.return_, 1) := by decide +kernel
theorem dX6_howMany_0 : decode cX6_howMany 0 = .ok (.iload_n 0, 1) := by decide +kernel
theorem dX6_howMany_1 : decode cX6_howMany 1 = .ok (.iconst 2, 1) := by decide +kernel
theorem dX6_howMany_2 : decode cX6_howMany 2 = .ok (.if_icmp .lt 19, 3) := by decide +kernel
theorem dX6_howMany_5 : decode cX6_howMany 5 = .ok (.iload_n 0, 1) := by decide +kernel
theorem dX6_howMany_6 : decode cX6_howMany 6 = .ok (.iconst 5, 1) := by decide +kernel
theorem dX6_howMany_7 : decode cX6_howMany 7 = .ok (.if_icmp .gt 14, 3) := by decide +kernel
theorem dX6_howMany_10 : decode cX6_howMany 10 = .ok (.iload_n 1, 1) := by decide +kernel
theorem dX6_howMany_11 : decode cX6_howMany 11 = .ok (.iconst 1, 1) := by decide +kernel
theorem dX6_howMany_12 : decode cX6_howMany 12 = .ok (.if_icmp .lt 9, 3) := by decide +kernel
theorem dX6_howMany_15 : decode cX6_howMany 15 = .ok (.iload_n 1, 1) := by decide +kernel
theorem dX6_howMany_16 : decode cX6_howMany 16 = .ok (.bipush 14, 2) := by decide +kernel
theorem dX6_howMany_18 : decode cX6_howMany 18 = .ok (.if_icmp .le 5, 3) := by decide +kernel
theorem dX6_howMany_21 : decode cX6_howMany 21 = .ok (.iconst 0, 1) := by decide +kernel
theorem dX6_howMany_22 : decode cX6_howMany 22 = .ok (.ireturn, 1) := by decide +kernel
theorem dX6_howMany_23 : decode cX6_howMany 23 = .ok (.iconst 1, 1) := by decide +kernel
theorem dX6_howMany_24 : decode cX6_howMany 24 = .ok (.istore_n 2, 1) := by decide +kernel
theorem dX6_howMany_25 : decode cX6_howMany 25 = .ok (.iconst 0, 1) := by decide +kernel
theorem dX6_howMany_26 : decode cX6_howMany 26 = .ok (.istore_n 3, 1) := by decide +kernel
theorem dX6_howMany_27 : decode cX6_howMany 27 = .ok (.iload_n 3, 1) := by decide +kernel
theorem dX6_howMany_28 : decode cX6_howMany 28 = .ok (.iload_n 1, 1) := by decide +kernel
theorem dX6_howMany_29 : decode cX6_howMany 29 = .ok (.if_icmp .ge 22, 3) := by decide +kernel
theorem dX6_howMany_32 : decode cX6_howMany 32 = .ok (.iload_n 2, 1) := by decide +kernel
theorem dX6_howMany_33 : decode cX6_howMany 33 = .ok (.iload_n 0, 1) := by decide +kernel
theorem dX6_howMany_34 : decode cX6_howMany 34 = .ok (.imul, 1) := by decide +kernel
theorem dX6_howMany_35 : decode cX6_howMany 35 = .ok (.istore_n 2, 1) := by decide +kernel
theorem dX6_howMany_36 : decode cX6_howMany 36 = .ok (.iload_n 2, 1) := by decide +kernel
theorem dX6_howMany_37 : decode cX6_howMany 37 = .ok (.sipush 20000, 3) := by decide +kernel
theorem dX6_howMany_40 : decode cX6_howMany 40 = .ok (.if_icmp .le 5, 3) := by decide +kernel
theorem dX6_howMany_43 : decode cX6_howMany 43 = .ok (.iconst 0, 1) := by decide +kernel
theorem dX6_howMany_44 : decode cX6_howMany 44 = .ok (.ireturn, 1) := by decide +kernel
theorem dX6_howMany_45 : decode cX6_howMany 45 = .ok (.iinc 3 1, 3) := by decide +kernel
theorem dX6_howMany_48 : decode cX6_howMany 48 = .ok (.goto (-21), 3) := by decide +kernel
theorem dX6_howMany_51 : decode cX6_howMany 51 = .ok (.iload_n 2, 1) := by decide +kernel
theorem dX6_howMany_52 : decode cX6_howMany 52 = .ok (.ireturn, 1) := by decide +kernel
theorem dX6_become_0 : decode cX6_become 0 = .ok (.aload_n 0, 1) := by decide +kernel
theorem dX6_become_1 : decode cX6_become 1 = .ok (.iload_n 1, 1) := by decide +kernel
theorem dX6_become_2 : decode cX6_become 2 = .ok (.putfield 19, 3) := by decide +kernel
theorem dX6_become_5 : decode cX6_become 5 = .ok (.aload_n 0, 1) := by decide +kernel
theorem dX6_become_6 : decode cX6_become 6 = .ok (.iload_n 2, 1) := by decide +kernel
theorem dX6_become_7 : decode cX6_become 7 = .ok (.putfield 23, 3) := by decide +kernel
theorem dX6_become_10 : decode cX6_become 10 = .ok (.aload_n 0, 1) := by decide +kernel
theorem dX6_become_11 : decode cX6_become 11 = .ok (.getfield 9, 3) := by decide +kernel
theorem dX6_become_14 : decode cX6_become 14 = .ok (.iconst 0, 1) := by decide +kernel
theorem dX6_become_15 : decode cX6_become 15 = .ok (.iconst 1, 1) := by decide +kernel
theorem dX6_become_16 : decode cX6_become 16 = .ok (.iastore, 1) := by decide +kernel
theorem dX6_become_17 : decode cX6_become 17 = .ok (.iconst 1, 1) := by decide +kernel
theorem dX6_become_18 : decode cX6_become 18 = .ok (.istore_n 3, 1) := by decide +kernel
theorem dX6_become_19 : decode cX6_become 19 = .ok (.iload_n 3, 1) := by decide +kernel
theorem dX6_become_20 : decode cX6_become 20 = .ok (.iload_n 2, 1) := by decide +kernel
theorem dX6_become_21 : decode cX6_become 21 = .ok (.if_icmp .gt 25, 3) := by decide +kernel
theorem dX6_become_24 : decode cX6_become 24 = .ok (.aload_n 0, 1) := by decide +kernel
theorem dX6_become_25 : decode cX6_become 25 = .ok (.getfield 9, 3) := by decide +kernel
theorem dX6_become_28 : decode cX6_become 28 = .ok (.iload_n 3, 1) := by decide +kernel
theorem dX6_become_29 : decode cX6_become 29 = .ok (.aload_n 0, 1) := by decide +kernel
theorem dX6_become_30 : decode cX6_become 30 = .ok (.getfield 9, 3) := by decide +kernel
theorem dX6_become_33 : decode cX6_become 33 = .ok (.iload_n 3, 1) := by decide +kernel
theorem dX6_become_34 : decode cX6_become 34 = .ok (.iconst 1, 1) := by decide +kernel
theorem dX6_become_35 : decode cX6_become 35 = .ok (.isub, 1) := by decide +kernel
theorem dX6_become_36 : decode cX6_become 36 = .ok (.iaload, 1) := by decide +kernel
theorem dX6_become_37 : decode cX6_become 37 = .ok (.iload_n 1, 1) := by decide +kernel
theorem dX6_become_38 : decode cX6_become 38 = .ok (.imul, 1) := by decide +kernel
theorem dX6_become_39 : decode cX6_become 39 = .ok (.iastore, 1) := by decide +kernel
theorem dX6_become_40 : decode cX6_become 40 = .ok (.iinc 3 1, 3) := by decide +kernel
theorem dX6_become_43 : decode cX6_become 43 = .ok (.goto (-24), 3) := by decide +kernel
theorem dX6_become_46 : decode cX6_become 46 = .ok (.aload_n 0, 1) := by decide +kernel
theorem dX6_become_47 : decode cX6_become 47 = .ok (.aload_n 0, 1) := by decide +kernel
theorem dX6_become_48 : decode cX6_become 48 = .ok (.getfield 9, 3) := by decide +kernel
theorem dX6_become_51 : decode cX6_become 51 = .ok (.iload_n 2, 1) := by decide +kernel
theorem dX6_become_52 : decode cX6_become 52 = .ok (.iaload, 1) := by decide +kernel
theorem dX6_become_53 : decode cX6_become 53 = .ok (.putfield 26, 3) := by decide +kernel
theorem dX6_become_56 : decode cX6_become 56 = .ok (.aload_n 0, 1) := by decide +kernel
theorem dX6_become_57 : decode cX6_become 57 = .ok (.aload_n 0, 1) := by decide +kernel
theorem dX6_become_58 : decode cX6_become 58 = .ok (.getfield 9, 3) := by decide +kernel
theorem dX6_become_61 : decode cX6_become 61 = .ok (.iload_n 2, 1) := by decide +kernel
theorem dX6_become_62 : decode cX6_become 62 = .ok (.iconst 1, 1) := by decide +kernel
theorem dX6_become_63 : decode cX6_become 63 = .ok (.isub, 1) := by decide +kernel
theorem dX6_become_64 : decode cX6_become 64 = .ok (.iaload, 1) := by decide +kernel
theorem dX6_become_65 : decode cX6_become 65 = .ok (.putfield 29, 3) := by decide +kernel
theorem dX6_become_68 : decode cX6_become 68 = .ok (.return_, 1) := by decide +kernel
theorem dX6_has_0 : decode cX6_has 0 = .ok (.iload_n 1, 1) := by decide +kernel
theorem dX6_has_1 : decode cX6_has 1 = .ok (.ifCond .lt 15, 3) := by decide +kernel
theorem dX6_has_4 : decode cX6_has 4 = .ok (.iload_n 1, 1) := by decide +kernel
theorem dX6_has_5 : decode cX6_has 5 = .ok (.aload_n 0, 1) := by decide +kernel
theorem dX6_has_6 : decode cX6_has 6 = .ok (.getfield 26, 3) := by decide +kernel
theorem dX6_has_9 : decode cX6_has 9 = .ok (.if_icmp .ge 7, 3) := by decide +kernel
theorem dX6_has_12 : decode cX6_has 12 = .ok (.iconst 1, 1) := by decide +kernel
theorem dX6_has_13 : decode cX6_has 13 = .ok (.goto 4, 3) := by decide +kernel
theorem dX6_has_16 : decode cX6_has 16 = .ok (.iconst 0, 1) := by decide +kernel
theorem dX6_has_17 : decode cX6_has 17 = .ok (.ireturn, 1) := by decide +kernel
theorem dX6_isLetter_0 : decode cX6_isLetter 0 = .ok (.iload_n 1, 1) := by decide +kernel
theorem dX6_isLetter_1 : decode cX6_isLetter 1 = .ok (.ifCond .lt 15, 3) := by decide +kernel
theorem dX6_isLetter_4 : decode cX6_isLetter 4 = .ok (.iload_n 1, 1) := by decide +kernel
theorem dX6_isLetter_5 : decode cX6_isLetter 5 = .ok (.aload_n 0, 1) := by decide +kernel
theorem dX6_isLetter_6 : decode cX6_isLetter 6 = .ok (.getfield 19, 3) := by decide +kernel
theorem dX6_isLetter_9 : decode cX6_isLetter 9 = .ok (.if_icmp .ge 7, 3) := by decide +kernel
theorem dX6_isLetter_12 : decode cX6_isLetter 12 = .ok (.iconst 1, 1) := by decide +kernel
theorem dX6_isLetter_13 : decode cX6_isLetter 13 = .ok (.goto 4, 3) := by decide +kernel
theorem dX6_isLetter_16 : decode cX6_isLetter 16 = .ok (.iconst 0, 1) := by decide +kernel
theorem dX6_isLetter_17 : decode cX6_isLetter 17 = .ok (.ireturn, 1) := by decide +kernel
theorem dX6_differInFirst_0 : decode cX6_differInFirst 0 = .ok (.iload_n 1, 1) := by decide +kernel
theorem dX6_differInFirst_1 : decode cX6_differInFirst 1 = .ok (.iload_n 2, 1) := by decide +kernel
theorem dX6_differInFirst_2 : decode cX6_differInFirst 2 = .ok (.if_icmp .eq 22, 3) := by decide +kernel
theorem dX6_differInFirst_5 : decode cX6_differInFirst 5 = .ok (.iload_n 1, 1) := by decide +kernel
theorem dX6_differInFirst_6 : decode cX6_differInFirst 6 = .ok (.aload_n 0, 1) := by decide +kernel
theorem dX6_differInFirst_7 : decode cX6_differInFirst 7 = .ok (.getfield 29, 3) := by decide +kernel
theorem dX6_differInFirst_10 : decode cX6_differInFirst 10 = .ok (.irem, 1) := by decide +kernel
theorem dX6_differInFirst_11 : decode cX6_differInFirst 11 = .ok (.iload_n 2, 1) := by decide +kernel
theorem dX6_differInFirst_12 : decode cX6_differInFirst 12 = .ok (.aload_n 0, 1) := by decide +kernel
theorem dX6_differInFirst_13 : decode cX6_differInFirst 13 = .ok (.getfield 29, 3) := by decide +kernel
theorem dX6_differInFirst_16 : decode cX6_differInFirst 16 = .ok (.irem, 1) := by decide +kernel
theorem dX6_differInFirst_17 : decode cX6_differInFirst 17 = .ok (.if_icmp .ne 7, 3) := by decide +kernel
theorem dX6_differInFirst_20 : decode cX6_differInFirst 20 = .ok (.iconst 1, 1) := by decide +kernel
theorem dX6_differInFirst_21 : decode cX6_differInFirst 21 = .ok (.goto 4, 3) := by decide +kernel
theorem dX6_differInFirst_24 : decode cX6_differInFirst 24 = .ok (.iconst 0, 1) := by decide +kernel
theorem dX6_differInFirst_25 : decode cX6_differInFirst 25 = .ok (.ireturn, 1) := by decide +kernel
theorem dX6_turned_0 : decode cX6_turned 0 = .ok (.iload_n 2, 1) := by decide +kernel
theorem dX6_turned_1 : decode cX6_turned 1 = .ok (.aload_n 0, 1) := by decide +kernel
theorem dX6_turned_2 : decode cX6_turned 2 = .ok (.getfield 23, 3) := by decide +kernel
theorem dX6_turned_5 : decode cX6_turned 5 = .ok (.irem, 1) := by decide +kernel
theorem dX6_turned_6 : decode cX6_turned 6 = .ok (.istore_n 3, 1) := by decide +kernel
theorem dX6_turned_7 : decode cX6_turned 7 = .ok (.aload_n 0, 1) := by decide +kernel
theorem dX6_turned_8 : decode cX6_turned 8 = .ok (.getfield 9, 3) := by decide +kernel
theorem dX6_turned_11 : decode cX6_turned 11 = .ok (.aload_n 0, 1) := by decide +kernel
theorem dX6_turned_12 : decode cX6_turned 12 = .ok (.getfield 23, 3) := by decide +kernel
theorem dX6_turned_15 : decode cX6_turned 15 = .ok (.iload_n 3, 1) := by decide +kernel
theorem dX6_turned_16 : decode cX6_turned 16 = .ok (.isub, 1) := by decide +kernel
theorem dX6_turned_17 : decode cX6_turned 17 = .ok (.iaload, 1) := by decide +kernel
theorem dX6_turned_18 : decode cX6_turned 18 = .ok (.istore 4, 2) := by decide +kernel
theorem dX6_turned_20 : decode cX6_turned 20 = .ok (.iload_n 1, 1) := by decide +kernel
theorem dX6_turned_21 : decode cX6_turned 21 = .ok (.iload 4, 2) := by decide +kernel
theorem dX6_turned_23 : decode cX6_turned 23 = .ok (.irem, 1) := by decide +kernel
theorem dX6_turned_24 : decode cX6_turned 24 = .ok (.aload_n 0, 1) := by decide +kernel
theorem dX6_turned_25 : decode cX6_turned 25 = .ok (.getfield 9, 3) := by decide +kernel
theorem dX6_turned_28 : decode cX6_turned 28 = .ok (.iload_n 3, 1) := by decide +kernel
theorem dX6_turned_29 : decode cX6_turned 29 = .ok (.iaload, 1) := by decide +kernel
theorem dX6_turned_30 : decode cX6_turned 30 = .ok (.imul, 1) := by decide +kernel
theorem dX6_turned_31 : decode cX6_turned 31 = .ok (.iload_n 1, 1) := by decide +kernel
theorem dX6_turned_32 : decode cX6_turned 32 = .ok (.iload 4, 2) := by decide +kernel
theorem dX6_turned_34 : decode cX6_turned 34 = .ok (.idiv, 1) := by decide +kernel
theorem dX6_turned_35 : decode cX6_turned 35 = .ok (.iadd, 1) := by decide +kernel
theorem dX6_turned_36 : decode cX6_turned 36 = .ok (.ireturn, 1) := by decide +kernel
theorem dX6_turnedOnce_0 : decode cX6_turnedOnce 0 = .ok (.iload_n 1, 1) := by decide +kernel
theorem dX6_turnedOnce_1 : decode cX6_turnedOnce 1 = .ok (.aload_n 0, 1) := by decide +kernel
theorem dX6_turnedOnce_2 : decode cX6_turnedOnce 2 = .ok (.getfield 29, 3) := by decide +kernel
theorem dX6_turnedOnce_5 : decode cX6_turnedOnce 5 = .ok (.irem, 1) := by decide +kernel
theorem dX6_turnedOnce_6 : decode cX6_turnedOnce 6 = .ok (.aload_n 0, 1) := by decide +kernel
theorem dX6_turnedOnce_7 : decode cX6_turnedOnce 7 = .ok (.getfield 19, 3) := by decide +kernel
theorem dX6_turnedOnce_10 : decode cX6_turnedOnce 10 = .ok (.imul, 1) := by decide +kernel
theorem dX6_turnedOnce_11 : decode cX6_turnedOnce 11 = .ok (.iload_n 1, 1) := by decide +kernel
theorem dX6_turnedOnce_12 : decode cX6_turnedOnce 12 = .ok (.aload_n 0, 1) := by decide +kernel
theorem dX6_turnedOnce_13 : decode cX6_turnedOnce 13 = .ok (.getfield 29, 3) := by decide +kernel
theorem dX6_turnedOnce_16 : decode cX6_turnedOnce 16 = .ok (.idiv, 1) := by decide +kernel
theorem dX6_turnedOnce_17 : decode cX6_turnedOnce 17 = .ok (.iadd, 1) := by decide +kernel
theorem dX6_turnedOnce_18 : decode cX6_turnedOnce 18 = .ok (.ireturn, 1) := by decide +kernel
theorem dX6_leastOf_0 : decode cX6_leastOf 0 = .ok (.iload_n 1, 1) := by decide +kernel
theorem dX6_leastOf_1 : decode cX6_leastOf 1 = .ok (.istore_n 2, 1) := by decide +kernel
theorem dX6_leastOf_2 : decode cX6_leastOf 2 = .ok (.iload_n 1, 1) := by decide +kernel
theorem dX6_leastOf_3 : decode cX6_leastOf 3 = .ok (.istore_n 3, 1) := by decide +kernel
theorem dX6_leastOf_4 : decode cX6_leastOf 4 = .ok (.iconst 1, 1) := by decide +kernel
theorem dX6_leastOf_5 : decode cX6_leastOf 5 = .ok (.istore 4, 2) := by decide +kernel
theorem dX6_leastOf_7 : decode cX6_leastOf 7 = .ok (.iload 4, 2) := by decide +kernel
theorem dX6_leastOf_9 : decode cX6_leastOf 9 = .ok (.aload_n 0, 1) := by decide +kernel
theorem dX6_leastOf_10 : decode cX6_leastOf 10 = .ok (.getfield 23, 3) := by decide +kernel
theorem dX6_leastOf_13 : decode cX6_leastOf 13 = .ok (.if_icmp .ge 21, 3) := by decide +kernel
theorem dX6_leastOf_16 : decode cX6_leastOf 16 = .ok (.aload_n 0, 1) := by decide +kernel
theorem dX6_leastOf_17 : decode cX6_leastOf 17 = .ok (.iload_n 3, 1) := by decide +kernel
theorem dX6_leastOf_18 : decode cX6_leastOf 18 = .ok (.invokevirtual 32, 3) := by decide +kernel
theorem dX6_leastOf_21 : decode cX6_leastOf 21 = .ok (.istore_n 3, 1) := by decide +kernel
theorem dX6_leastOf_22 : decode cX6_leastOf 22 = .ok (.iload_n 2, 1) := by decide +kernel
theorem dX6_leastOf_23 : decode cX6_leastOf 23 = .ok (.iload_n 3, 1) := by decide +kernel
theorem dX6_leastOf_24 : decode cX6_leastOf 24 = .ok (.invokestatic 36, 3) := by decide +kernel
theorem dX6_leastOf_27 : decode cX6_leastOf 27 = .ok (.istore_n 2, 1) := by decide +kernel
theorem dX6_leastOf_28 : decode cX6_leastOf 28 = .ok (.iinc 4 1, 3) := by decide +kernel
theorem dX6_leastOf_31 : decode cX6_leastOf 31 = .ok (.goto (-24), 3) := by decide +kernel
theorem dX6_leastOf_34 : decode cX6_leastOf 34 = .ok (.iload_n 2, 1) := by decide +kernel
theorem dX6_leastOf_35 : decode cX6_leastOf 35 = .ok (.ireturn, 1) := by decide +kernel
theorem dX6_stepsToLeast_0 : decode cX6_stepsToLeast 0 = .ok (.iload_n 1, 1) := by decide +kernel
theorem dX6_stepsToLeast_1 : decode cX6_stepsToLeast 1 = .ok (.istore_n 2, 1) := by decide +kernel
theorem dX6_stepsToLeast_2 : decode cX6_stepsToLeast 2 = .ok (.iconst 0, 1) := by decide +kernel
theorem dX6_stepsToLeast_3 : decode cX6_stepsToLeast 3 = .ok (.istore_n 3, 1) := by decide +kernel
theorem dX6_stepsToLeast_4 : decode cX6_stepsToLeast 4 = .ok (.iload_n 1, 1) := by decide +kernel
theorem dX6_stepsToLeast_5 : decode cX6_stepsToLeast 5 = .ok (.istore 4, 2) := by decide +kernel
theorem dX6_stepsToLeast_7 : decode cX6_stepsToLeast 7 = .ok (.iconst 1, 1) := by decide +kernel
theorem dX6_stepsToLeast_8 : decode cX6_stepsToLeast 8 = .ok (.istore 5, 2) := by decide +kernel
theorem dX6_stepsToLeast_10 : decode cX6_stepsToLeast 10 = .ok (.iload 5, 2) := by decide +kernel
theorem dX6_stepsToLeast_12 : decode cX6_stepsToLeast 12 = .ok (.aload_n 0, 1) := by decide +kernel
theorem dX6_stepsToLeast_13 : decode cX6_stepsToLeast 13 = .ok (.getfield 23, 3) := by decide +kernel
theorem dX6_stepsToLeast_16 : decode cX6_stepsToLeast 16 = .ok (.if_icmp .ge 29, 3) := by decide +kernel
theorem dX6_stepsToLeast_19 : decode cX6_stepsToLeast 19 = .ok (.aload_n 0, 1) := by decide +kernel
theorem dX6_stepsToLeast_20 : decode cX6_stepsToLeast 20 = .ok (.iload 4, 2) := by decide +kernel
theorem dX6_stepsToLeast_22 : decode cX6_stepsToLeast 22 = .ok (.invokevirtual 32, 3) := by decide +kernel
theorem dX6_stepsToLeast_25 : decode cX6_stepsToLeast 25 = .ok (.istore 4, 2) := by decide +kernel
theorem dX6_stepsToLeast_27 : decode cX6_stepsToLeast 27 = .ok (.iload 4, 2) := by decide +kernel
theorem dX6_stepsToLeast_29 : decode cX6_stepsToLeast 29 = .ok (.iload_n 2, 1) := by decide +kernel
theorem dX6_stepsToLeast_30 : decode cX6_stepsToLeast 30 = .ok (.if_icmp .ge 9, 3) := by decide +kernel
theorem dX6_stepsToLeast_33 : decode cX6_stepsToLeast 33 = .ok (.iload 4, 2) := by decide +kernel
theorem dX6_stepsToLeast_35 : decode cX6_stepsToLeast 35 = .ok (.istore_n 2, 1) := by decide +kernel
theorem dX6_stepsToLeast_36 : decode cX6_stepsToLeast 36 = .ok (.iload 5, 2) := by decide +kernel
theorem dX6_stepsToLeast_38 : decode cX6_stepsToLeast 38 = .ok (.istore_n 3, 1) := by decide +kernel
theorem dX6_stepsToLeast_39 : decode cX6_stepsToLeast 39 = .ok (.iinc 5 1, 3) := by decide +kernel
theorem dX6_stepsToLeast_42 : decode cX6_stepsToLeast 42 = .ok (.goto (-32), 3) := by decide +kernel
theorem dX6_stepsToLeast_45 : decode cX6_stepsToLeast 45 = .ok (.iload_n 3, 1) := by decide +kernel
theorem dX6_stepsToLeast_46 : decode cX6_stepsToLeast 46 = .ok (.ireturn, 1) := by decide +kernel
theorem dX6_ringSize_0 : decode cX6_ringSize 0 = .ok (.aload_n 0, 1) := by decide +kernel
theorem dX6_ringSize_1 : decode cX6_ringSize 1 = .ok (.iload_n 1, 1) := by decide +kernel
theorem dX6_ringSize_2 : decode cX6_ringSize 2 = .ok (.invokevirtual 32, 3) := by decide +kernel
theorem dX6_ringSize_5 : decode cX6_ringSize 5 = .ok (.istore_n 2, 1) := by decide +kernel
theorem dX6_ringSize_6 : decode cX6_ringSize 6 = .ok (.iconst 1, 1) := by decide +kernel
theorem dX6_ringSize_7 : decode cX6_ringSize 7 = .ok (.istore_n 3, 1) := by decide +kernel
theorem dX6_ringSize_8 : decode cX6_ringSize 8 = .ok (.iload_n 3, 1) := by decide +kernel
theorem dX6_ringSize_9 : decode cX6_ringSize 9 = .ok (.aload_n 0, 1) := by decide +kernel
theorem dX6_ringSize_10 : decode cX6_ringSize 10 = .ok (.getfield 23, 3) := by decide +kernel
theorem dX6_ringSize_13 : decode cX6_ringSize 13 = .ok (.if_icmp .ge 20, 3) := by decide +kernel
theorem dX6_ringSize_16 : decode cX6_ringSize 16 = .ok (.iload_n 2, 1) := by decide +kernel
theorem dX6_ringSize_17 : decode cX6_ringSize 17 = .ok (.iload_n 1, 1) := by decide +kernel
theorem dX6_ringSize_18 : decode cX6_ringSize 18 = .ok (.if_icmp .eq 15, 3) := by decide +kernel
theorem dX6_ringSize_21 : decode cX6_ringSize 21 = .ok (.aload_n 0, 1) := by decide +kernel
theorem dX6_ringSize_22 : decode cX6_ringSize 22 = .ok (.iload_n 2, 1) := by decide +kernel
theorem dX6_ringSize_23 : decode cX6_ringSize 23 = .ok (.invokevirtual 32, 3) := by decide +kernel
theorem dX6_ringSize_26 : decode cX6_ringSize 26 = .ok (.istore_n 2, 1) := by decide +kernel
theorem dX6_ringSize_27 : decode cX6_ringSize 27 = .ok (.iinc 3 1, 3) := by decide +kernel
theorem dX6_ringSize_30 : decode cX6_ringSize 30 = .ok (.goto (-22), 3) := by decide +kernel
theorem dX6_ringSize_33 : decode cX6_ringSize 33 = .ok (.iload_n 3, 1) := by decide +kernel
theorem dX6_ringSize_34 : decode cX6_ringSize 34 = .ok (.ireturn, 1) := by decide +kernel
theorem dX6_backward_0 : decode cX6_backward 0 = .ok (.iload_n 1, 1) := by decide +kernel
theorem dX6_backward_1 : decode cX6_backward 1 = .ok (.istore_n 2, 1) := by decide +kernel
theorem dX6_backward_2 : decode cX6_backward 2 = .ok (.iconst 0, 1) := by decide +kernel
theorem dX6_backward_3 : decode cX6_backward 3 = .ok (.istore_n 3, 1) := by decide +kernel
theorem dX6_backward_4 : decode cX6_backward 4 = .ok (.iconst 0, 1) := by decide +kernel
theorem dX6_backward_5 : decode cX6_backward 5 = .ok (.istore 4, 2) := by decide +kernel
theorem dX6_backward_7 : decode cX6_backward 7 = .ok (.iload 4, 2) := by decide +kernel
theorem dX6_backward_9 : decode cX6_backward 9 = .ok (.aload_n 0, 1) := by decide +kernel
theorem dX6_backward_10 : decode cX6_backward 10 = .ok (.getfield 23, 3) := by decide +kernel
theorem dX6_backward_13 : decode cX6_backward 13 = .ok (.if_icmp .ge 30, 3) := by decide +kernel
theorem dX6_backward_16 : decode cX6_backward 16 = .ok (.iload_n 3, 1) := by decide +kernel
theorem dX6_backward_17 : decode cX6_backward 17 = .ok (.aload_n 0, 1) := by decide +kernel
theorem dX6_backward_18 : decode cX6_backward 18 = .ok (.getfield 19, 3) := by decide +kernel
theorem dX6_backward_21 : decode cX6_backward 21 = .ok (.imul, 1) := by decide +kernel
theorem dX6_backward_22 : decode cX6_backward 22 = .ok (.iload_n 2, 1) := by decide +kernel
theorem dX6_backward_23 : decode cX6_backward 23 = .ok (.aload_n 0, 1) := by decide +kernel
theorem dX6_backward_24 : decode cX6_backward 24 = .ok (.getfield 19, 3) := by decide +kernel
theorem dX6_backward_27 : decode cX6_backward 27 = .ok (.irem, 1) := by decide +kernel
theorem dX6_backward_28 : decode cX6_backward 28 = .ok (.iadd, 1) := by decide +kernel
theorem dX6_backward_29 : decode cX6_backward 29 = .ok (.istore_n 3, 1) := by decide +kernel
theorem dX6_backward_30 : decode cX6_backward 30 = .ok (.iload_n 2, 1) := by decide +kernel
theorem dX6_backward_31 : decode cX6_backward 31 = .ok (.aload_n 0, 1) := by decide +kernel
theorem dX6_backward_32 : decode cX6_backward 32 = .ok (.getfield 19, 3) := by decide +kernel
theorem dX6_backward_35 : decode cX6_backward 35 = .ok (.idiv, 1) := by decide +kernel
theorem dX6_backward_36 : decode cX6_backward 36 = .ok (.istore_n 2, 1) := by decide +kernel
theorem dX6_backward_37 : decode cX6_backward 37 = .ok (.iinc 4 1, 3) := by decide +kernel
theorem dX6_backward_40 : decode cX6_backward 40 = .ok (.goto (-33), 3) := by decide +kernel
theorem dX6_backward_43 : decode cX6_backward 43 = .ok (.iload_n 3, 1) := by decide +kernel
theorem dX6_backward_44 : decode cX6_backward 44 = .ok (.ireturn, 1) := by decide +kernel
theorem dJ13_bitCount_95d88_0 : decode cJ13_bitCount_95d88 0 = .ok (.lload_n 0, 1) := by decide +kernel
theorem dJ13_bitCount_95d88_1 : decode cJ13_bitCount_95d88 1 = .ok (.lload_n 0, 1) := by decide +kernel
theorem dJ13_bitCount_95d88_2 : decode cJ13_bitCount_95d88 2 = .ok (.iconst 1, 1) := by decide +kernel
theorem dJ13_bitCount_95d88_3 : decode cJ13_bitCount_95d88 3 = .ok (.lushr, 1) := by decide +kernel
theorem dJ13_bitCount_95d88_4 : decode cJ13_bitCount_95d88 4 = .ok (.ldc2_w 314, 3) := by decide +kernel
theorem dJ13_bitCount_95d88_7 : decode cJ13_bitCount_95d88 7 = .ok (.land, 1) := by decide +kernel
theorem dJ13_bitCount_95d88_8 : decode cJ13_bitCount_95d88 8 = .ok (.lsub, 1) := by decide +kernel
theorem dJ13_bitCount_95d88_9 : decode cJ13_bitCount_95d88 9 = .ok (.lstore_n 0, 1) := by decide +kernel
theorem dJ13_bitCount_95d88_10 : decode cJ13_bitCount_95d88 10 = .ok (.lload_n 0, 1) := by decide +kernel
theorem dJ13_bitCount_95d88_11 : decode cJ13_bitCount_95d88 11 = .ok (.ldc2_w 316, 3) := by decide +kernel
theorem dJ13_bitCount_95d88_14 : decode cJ13_bitCount_95d88 14 = .ok (.land, 1) := by decide +kernel
theorem dJ13_bitCount_95d88_15 : decode cJ13_bitCount_95d88 15 = .ok (.lload_n 0, 1) := by decide +kernel
theorem dJ13_bitCount_95d88_16 : decode cJ13_bitCount_95d88 16 = .ok (.iconst 2, 1) := by decide +kernel
theorem dJ13_bitCount_95d88_17 : decode cJ13_bitCount_95d88 17 = .ok (.lushr, 1) := by decide +kernel
theorem dJ13_bitCount_95d88_18 : decode cJ13_bitCount_95d88 18 = .ok (.ldc2_w 316, 3) := by decide +kernel
theorem dJ13_bitCount_95d88_21 : decode cJ13_bitCount_95d88 21 = .ok (.land, 1) := by decide +kernel
theorem dJ13_bitCount_95d88_22 : decode cJ13_bitCount_95d88 22 = .ok (.ladd, 1) := by decide +kernel
theorem dJ13_bitCount_95d88_23 : decode cJ13_bitCount_95d88 23 = .ok (.lstore_n 0, 1) := by decide +kernel
theorem dJ13_bitCount_95d88_24 : decode cJ13_bitCount_95d88 24 = .ok (.lload_n 0, 1) := by decide +kernel
theorem dJ13_bitCount_95d88_25 : decode cJ13_bitCount_95d88 25 = .ok (.lload_n 0, 1) := by decide +kernel
theorem dJ13_bitCount_95d88_26 : decode cJ13_bitCount_95d88 26 = .ok (.iconst 4, 1) := by decide +kernel
theorem dJ13_bitCount_95d88_27 : decode cJ13_bitCount_95d88 27 = .ok (.lushr, 1) := by decide +kernel
theorem dJ13_bitCount_95d88_28 : decode cJ13_bitCount_95d88 28 = .ok (.ladd, 1) := by decide +kernel
theorem dJ13_bitCount_95d88_29 : decode cJ13_bitCount_95d88 29 = .ok (.ldc2_w 318, 3) := by decide +kernel
theorem dJ13_bitCount_95d88_32 : decode cJ13_bitCount_95d88 32 = .ok (.land, 1) := by decide +kernel
theorem dJ13_bitCount_95d88_33 : decode cJ13_bitCount_95d88 33 = .ok (.lstore_n 0, 1) := by decide +kernel
theorem dJ13_bitCount_95d88_34 : decode cJ13_bitCount_95d88 34 = .ok (.lload_n 0, 1) := by decide +kernel
theorem dJ13_bitCount_95d88_35 : decode cJ13_bitCount_95d88 35 = .ok (.lload_n 0, 1) := by decide +kernel
theorem dJ13_bitCount_95d88_36 : decode cJ13_bitCount_95d88 36 = .ok (.bipush 8, 2) := by decide +kernel
theorem dJ13_bitCount_95d88_38 : decode cJ13_bitCount_95d88 38 = .ok (.lushr, 1) := by decide +kernel
theorem dJ13_bitCount_95d88_39 : decode cJ13_bitCount_95d88 39 = .ok (.ladd, 1) := by decide +kernel
theorem dJ13_bitCount_95d88_40 : decode cJ13_bitCount_95d88 40 = .ok (.lstore_n 0, 1) := by decide +kernel
theorem dJ13_bitCount_95d88_41 : decode cJ13_bitCount_95d88 41 = .ok (.lload_n 0, 1) := by decide +kernel
theorem dJ13_bitCount_95d88_42 : decode cJ13_bitCount_95d88 42 = .ok (.lload_n 0, 1) := by decide +kernel
theorem dJ13_bitCount_95d88_43 : decode cJ13_bitCount_95d88 43 = .ok (.bipush 16, 2) := by decide +kernel
theorem dJ13_bitCount_95d88_45 : decode cJ13_bitCount_95d88 45 = .ok (.lushr, 1) := by decide +kernel
theorem dJ13_bitCount_95d88_46 : decode cJ13_bitCount_95d88 46 = .ok (.ladd, 1) := by decide +kernel
theorem dJ13_bitCount_95d88_47 : decode cJ13_bitCount_95d88 47 = .ok (.lstore_n 0, 1) := by decide +kernel
theorem dJ13_bitCount_95d88_48 : decode cJ13_bitCount_95d88 48 = .ok (.lload_n 0, 1) := by decide +kernel
theorem dJ13_bitCount_95d88_49 : decode cJ13_bitCount_95d88 49 = .ok (.lload_n 0, 1) := by decide +kernel
theorem dJ13_bitCount_95d88_50 : decode cJ13_bitCount_95d88 50 = .ok (.bipush 32, 2) := by decide +kernel
theorem dJ13_bitCount_95d88_52 : decode cJ13_bitCount_95d88 52 = .ok (.lushr, 1) := by decide +kernel
theorem dJ13_bitCount_95d88_53 : decode cJ13_bitCount_95d88 53 = .ok (.ladd, 1) := by decide +kernel
theorem dJ13_bitCount_95d88_54 : decode cJ13_bitCount_95d88 54 = .ok (.lstore_n 0, 1) := by decide +kernel
theorem dJ13_bitCount_95d88_55 : decode cJ13_bitCount_95d88 55 = .ok (.lload_n 0, 1) := by decide +kernel
theorem dJ13_bitCount_95d88_56 : decode cJ13_bitCount_95d88 56 = .ok (.l2i, 1) := by decide +kernel
theorem dJ13_bitCount_95d88_57 : decode cJ13_bitCount_95d88 57 = .ok (.bipush 127, 2) := by decide +kernel
theorem dJ13_bitCount_95d88_59 : decode cJ13_bitCount_95d88 59 = .ok (.iand, 1) := by decide +kernel
theorem dJ13_bitCount_95d88_60 : decode cJ13_bitCount_95d88 60 = .ok (.ireturn, 1) := by decide +kernel
theorem dJ9_min_7cf53_0 : decode cJ9_min_7cf53 0 = .ok (.iload_n 0, 1) := by decide +kernel
theorem dJ9_min_7cf53_1 : decode cJ9_min_7cf53 1 = .ok (.iload_n 1, 1) := by decide +kernel
theorem dJ9_min_7cf53_2 : decode cJ9_min_7cf53 2 = .ok (.if_icmp .gt 7, 3) := by decide +kernel
theorem dJ9_min_7cf53_5 : decode cJ9_min_7cf53 5 = .ok (.iload_n 0, 1) := by decide +kernel
theorem dJ9_min_7cf53_6 : decode cJ9_min_7cf53 6 = .ok (.goto 4, 3) := by decide +kernel
theorem dJ9_min_7cf53_9 : decode cJ9_min_7cf53 9 = .ok (.iload_n 1, 1) := by decide +kernel
theorem dJ9_min_7cf53_10 : decode cJ9_min_7cf53 10 = .ok (.ireturn, 1) := by decide +kernel
theorem dJ7_rangeCheck_23922_0 : decode cJ7_rangeCheck_23922 0 = .ok (.iload_n 1, 1) := by decide +kernel
theorem dJ7_rangeCheck_23922_1 : decode cJ7_rangeCheck_23922 1 = .ok (.iload_n 2, 1) := by decide +kernel
theorem dJ7_rangeCheck_23922_2 : decode cJ7_rangeCheck_23922 2 = .ok (.if_icmp .le 44, 3) := by decide +kernel
theorem dJ7_rangeCheck_23922_46 : decode cJ7_rangeCheck_23922 46 = .ok (.iload_n 1, 1) := by decide +kernel
theorem dJ7_rangeCheck_23922_47 : decode cJ7_rangeCheck_23922 47 = .ok (.ifCond .ge 12, 3) := by decide +kernel
theorem dJ7_rangeCheck_23922_50 : decode cJ7_rangeCheck_23922 50 = .ok (.new 68, 3) := by decide +kernel
theorem dJ7_rangeCheck_23922_53 : decode cJ7_rangeCheck_23922 53 = .ok (.dup, 1) := by decide +kernel
theorem dJ7_rangeCheck_23922_54 : decode cJ7_rangeCheck_23922 54 = .ok (.iload_n 1, 1) := by decide +kernel
theorem dJ7_rangeCheck_23922_55 : decode cJ7_rangeCheck_23922 55 = .ok (.invokespecial 70, 3) := by decide +kernel
theorem dJ7_rangeCheck_23922_58 : decode cJ7_rangeCheck_23922 58 = .ok (.athrow, 1) := by decide +kernel
theorem dJ7_rangeCheck_23922_59 : decode cJ7_rangeCheck_23922 59 = .ok (.iload_n 2, 1) := by decide +kernel
theorem dJ7_rangeCheck_23922_60 : decode cJ7_rangeCheck_23922 60 = .ok (.iload_n 0, 1) := by decide +kernel
theorem dJ7_rangeCheck_23922_61 : decode cJ7_rangeCheck_23922 61 = .ok (.if_icmp .le 12, 3) := by decide +kernel
theorem dJ7_rangeCheck_23922_64 : decode cJ7_rangeCheck_23922 64 = .ok (.new 68, 3) := by decide +kernel
theorem dJ7_rangeCheck_23922_67 : decode cJ7_rangeCheck_23922 67 = .ok (.dup, 1) := by decide +kernel
theorem dJ7_rangeCheck_23922_68 : decode cJ7_rangeCheck_23922 68 = .ok (.iload_n 2, 1) := by decide +kernel
theorem dJ7_rangeCheck_23922_69 : decode cJ7_rangeCheck_23922 69 = .ok (.invokespecial 70, 3) := by decide +kernel
theorem dJ7_rangeCheck_23922_72 : decode cJ7_rangeCheck_23922 72 = .ok (.athrow, 1) := by decide +kernel
theorem dJ7_rangeCheck_23922_73 : decode cJ7_rangeCheck_23922 73 = .ok (.return_, 1) := by decide +kernel
theorem dJ7_fill_d0a16_0 : decode cJ7_fill_d0a16 0 = .ok (.iconst 0, 1) := by decide +kernel
theorem dJ7_fill_d0a16_1 : decode cJ7_fill_d0a16 1 = .ok (.istore_n 3, 1) := by decide +kernel
theorem dJ7_fill_d0a16_2 : decode cJ7_fill_d0a16 2 = .ok (.aload_n 0, 1) := by decide +kernel
theorem dJ7_fill_d0a16_3 : decode cJ7_fill_d0a16 3 = .ok (.arraylength, 1) := by decide +kernel
theorem dJ7_fill_d0a16_4 : decode cJ7_fill_d0a16 4 = .ok (.istore 4, 2) := by decide +kernel
theorem dJ7_fill_d0a16_6 : decode cJ7_fill_d0a16 6 = .ok (.iload_n 3, 1) := by decide +kernel
theorem dJ7_fill_d0a16_7 : decode cJ7_fill_d0a16 7 = .ok (.iload 4, 2) := by decide +kernel
theorem dJ7_fill_d0a16_9 : decode cJ7_fill_d0a16 9 = .ok (.if_icmp .ge 13, 3) := by decide +kernel
theorem dJ7_fill_d0a16_12 : decode cJ7_fill_d0a16 12 = .ok (.aload_n 0, 1) := by decide +kernel
theorem dJ7_fill_d0a16_13 : decode cJ7_fill_d0a16 13 = .ok (.iload_n 3, 1) := by decide +kernel
theorem dJ7_fill_d0a16_14 : decode cJ7_fill_d0a16 14 = .ok (.lload_n 1, 1) := by decide +kernel
theorem dJ7_fill_d0a16_15 : decode cJ7_fill_d0a16 15 = .ok (.lastore, 1) := by decide +kernel
theorem dJ7_fill_d0a16_16 : decode cJ7_fill_d0a16 16 = .ok (.iinc 3 1, 3) := by decide +kernel
theorem dJ7_fill_d0a16_19 : decode cJ7_fill_d0a16 19 = .ok (.goto (-13), 3) := by decide +kernel
theorem dJ7_fill_d0a16_22 : decode cJ7_fill_d0a16 22 = .ok (.return_, 1) := by decide +kernel
theorem dJ7_fill_53178_0 : decode cJ7_fill_53178 0 = .ok (.iconst 0, 1) := by decide +kernel
theorem dJ7_fill_53178_1 : decode cJ7_fill_53178 1 = .ok (.istore_n 2, 1) := by decide +kernel
theorem dJ7_fill_53178_2 : decode cJ7_fill_53178 2 = .ok (.aload_n 0, 1) := by decide +kernel
theorem dJ7_fill_53178_3 : decode cJ7_fill_53178 3 = .ok (.arraylength, 1) := by decide +kernel
theorem dJ7_fill_53178_4 : decode cJ7_fill_53178 4 = .ok (.istore_n 3, 1) := by decide +kernel
theorem dJ7_fill_53178_5 : decode cJ7_fill_53178 5 = .ok (.iload_n 2, 1) := by decide +kernel
theorem dJ7_fill_53178_6 : decode cJ7_fill_53178 6 = .ok (.iload_n 3, 1) := by decide +kernel
theorem dJ7_fill_53178_7 : decode cJ7_fill_53178 7 = .ok (.if_icmp .ge 13, 3) := by decide +kernel
theorem dJ7_fill_53178_10 : decode cJ7_fill_53178 10 = .ok (.aload_n 0, 1) := by decide +kernel
theorem dJ7_fill_53178_11 : decode cJ7_fill_53178 11 = .ok (.iload_n 2, 1) := by decide +kernel
theorem dJ7_fill_53178_12 : decode cJ7_fill_53178 12 = .ok (.iload_n 1, 1) := by decide +kernel
theorem dJ7_fill_53178_13 : decode cJ7_fill_53178 13 = .ok (.iastore, 1) := by decide +kernel
theorem dJ7_fill_53178_14 : decode cJ7_fill_53178 14 = .ok (.iinc 2 1, 3) := by decide +kernel
theorem dJ7_fill_53178_17 : decode cJ7_fill_53178 17 = .ok (.goto (-12), 3) := by decide +kernel
theorem dJ7_fill_53178_20 : decode cJ7_fill_53178 20 = .ok (.return_, 1) := by decide +kernel
theorem dJ7_fill_fda19_0 : decode cJ7_fill_fda19 0 = .ok (.aload_n 0, 1) := by decide +kernel
theorem dJ7_fill_fda19_1 : decode cJ7_fill_fda19 1 = .ok (.arraylength, 1) := by decide +kernel
theorem dJ7_fill_fda19_2 : decode cJ7_fill_fda19 2 = .ok (.iload_n 1, 1) := by decide +kernel
theorem dJ7_fill_fda19_3 : decode cJ7_fill_fda19 3 = .ok (.iload_n 2, 1) := by decide +kernel
theorem dJ7_fill_fda19_4 : decode cJ7_fill_fda19 4 = .ok (.invokestatic 13, 3) := by decide +kernel
theorem dJ7_fill_fda19_7 : decode cJ7_fill_fda19 7 = .ok (.iload_n 1, 1) := by decide +kernel
theorem dJ7_fill_fda19_8 : decode cJ7_fill_fda19 8 = .ok (.istore 4, 2) := by decide +kernel
theorem dJ7_fill_fda19_10 : decode cJ7_fill_fda19 10 = .ok (.iload 4, 2) := by decide +kernel
theorem dJ7_fill_fda19_12 : decode cJ7_fill_fda19 12 = .ok (.iload_n 2, 1) := by decide +kernel
theorem dJ7_fill_fda19_13 : decode cJ7_fill_fda19 13 = .ok (.if_icmp .ge 14, 3) := by decide +kernel
theorem dJ7_fill_fda19_16 : decode cJ7_fill_fda19 16 = .ok (.aload_n 0, 1) := by decide +kernel
theorem dJ7_fill_fda19_17 : decode cJ7_fill_fda19 17 = .ok (.iload 4, 2) := by decide +kernel
theorem dJ7_fill_fda19_19 : decode cJ7_fill_fda19 19 = .ok (.iload_n 3, 1) := by decide +kernel
theorem dJ7_fill_fda19_20 : decode cJ7_fill_fda19 20 = .ok (.iastore, 1) := by decide +kernel
theorem dJ7_fill_fda19_21 : decode cJ7_fill_fda19 21 = .ok (.iinc 4 1, 3) := by decide +kernel
theorem dJ7_fill_fda19_24 : decode cJ7_fill_fda19 24 = .ok (.goto (-14), 3) := by decide +kernel
theorem dJ7_fill_fda19_27 : decode cJ7_fill_fda19 27 = .ok (.return_, 1) := by decide +kernel
theorem dJ7_fill_eb02e_0 : decode cJ7_fill_eb02e 0 = .ok (.aload_n 0, 1) := by decide +kernel
theorem dJ7_fill_eb02e_1 : decode cJ7_fill_eb02e 1 = .ok (.arraylength, 1) := by decide +kernel
theorem dJ7_fill_eb02e_2 : decode cJ7_fill_eb02e 2 = .ok (.iload_n 1, 1) := by decide +kernel
theorem dJ7_fill_eb02e_3 : decode cJ7_fill_eb02e 3 = .ok (.iload_n 2, 1) := by decide +kernel
theorem dJ7_fill_eb02e_4 : decode cJ7_fill_eb02e 4 = .ok (.invokestatic 13, 3) := by decide +kernel
theorem dJ7_fill_eb02e_7 : decode cJ7_fill_eb02e 7 = .ok (.iload_n 1, 1) := by decide +kernel
theorem dJ7_fill_eb02e_8 : decode cJ7_fill_eb02e 8 = .ok (.istore 4, 2) := by decide +kernel
theorem dJ7_fill_eb02e_10 : decode cJ7_fill_eb02e 10 = .ok (.iload 4, 2) := by decide +kernel
theorem dJ7_fill_eb02e_12 : decode cJ7_fill_eb02e 12 = .ok (.iload_n 2, 1) := by decide +kernel
theorem dJ7_fill_eb02e_13 : decode cJ7_fill_eb02e 13 = .ok (.if_icmp .ge 14, 3) := by decide +kernel
theorem dJ7_fill_eb02e_16 : decode cJ7_fill_eb02e 16 = .ok (.aload_n 0, 1) := by decide +kernel
theorem dJ7_fill_eb02e_17 : decode cJ7_fill_eb02e 17 = .ok (.iload 4, 2) := by decide +kernel
theorem dJ7_fill_eb02e_19 : decode cJ7_fill_eb02e 19 = .ok (.iload_n 3, 1) := by decide +kernel
theorem dJ7_fill_eb02e_20 : decode cJ7_fill_eb02e 20 = .ok (.bastore, 1) := by decide +kernel
theorem dJ7_fill_eb02e_21 : decode cJ7_fill_eb02e 21 = .ok (.iinc 4 1, 3) := by decide +kernel
theorem dJ7_fill_eb02e_24 : decode cJ7_fill_eb02e 24 = .ok (.goto (-14), 3) := by decide +kernel
theorem dJ7_fill_eb02e_27 : decode cJ7_fill_eb02e 27 = .ok (.return_, 1) := by decide +kernel
end
section
theorem dX7_init_0 : decode cX7_init 0 = .ok (.aload_n 0, 1) := by decide +kernel
theorem dX7_init_1 : decode cX7_init 1 = .ok (.invokespecial 1, 3) := by decide +kernel
theorem dX7_init_4 : decode cX7_init 4 = .ok (.aload_n 0, 1) := by decide +kernel
theorem dX7_init_5 : decode cX7_init 5 = .ok (.new 7, 3) := by decide +kernel
theorem dX7_init_8 : decode cX7_init 8 = .ok (.dup, 1) := by decide +kernel
theorem dX7_init_9 : decode cX7_init 9 = .ok (.invokespecial 9, 3) := by decide +kernel
theorem dX7_init_12 : decode cX7_init 12 = .ok (.putfield 10, 3) := by decide +kernel
theorem dX7_init_15 : decode cX7_init 15 = .ok (.aload_n 0, 1) := by decide +kernel
theorem dX7_init_16 : decode cX7_init 16 = .ok (.new 16, 3) := by decide +kernel
theorem dX7_init_19 : decode cX7_init 19 = .ok (.dup, 1) := by decide +kernel
theorem dX7_init_20 : decode cX7_init 20 = .ok (.aload_n 0, 1) := by decide +kernel
theorem dX7_init_21 : decode cX7_init 21 = .ok (.getfield 10, 3) := by decide +kernel
theorem dX7_init_24 : decode cX7_init 24 = .ok (.invokespecial 18, 3) := by decide +kernel
theorem dX7_init_27 : decode cX7_init 27 = .ok (.putfield 21, 3) := by decide +kernel
theorem dX7_init_30 : decode cX7_init 30 = .ok (.aload_n 0, 1) := by decide +kernel
theorem dX7_init_31 : decode cX7_init 31 = .ok (.new 25, 3) := by decide +kernel
theorem dX7_init_34 : decode cX7_init 34 = .ok (.dup, 1) := by decide +kernel
theorem dX7_init_35 : decode cX7_init 35 = .ok (.aload_n 0, 1) := by decide +kernel
theorem dX7_init_36 : decode cX7_init 36 = .ok (.getfield 10, 3) := by decide +kernel
theorem dX7_init_39 : decode cX7_init 39 = .ok (.invokespecial 27, 3) := by decide +kernel
theorem dX7_init_42 : decode cX7_init 42 = .ok (.putfield 28, 3) := by decide +kernel
theorem dX7_init_45 : decode cX7_init 45 = .ok (.aload_n 0, 1) := by decide +kernel
theorem dX7_init_46 : decode cX7_init 46 = .ok (.new 32, 3) := by decide +kernel
theorem dX7_init_49 : decode cX7_init 49 = .ok (.dup, 1) := by decide +kernel
theorem dX7_init_50 : decode cX7_init 50 = .ok (.aload_n 0, 1) := by decide +kernel
theorem dX7_init_51 : decode cX7_init 51 = .ok (.getfield 10, 3) := by decide +kernel
theorem dX7_init_54 : decode cX7_init 54 = .ok (.invokespecial 34, 3) := by decide +kernel
theorem dX7_init_57 : decode cX7_init 57 = .ok (.putfield 35, 3) := by decide +kernel
theorem dX7_init_60 : decode cX7_init 60 = .ok (.aload_n 0, 1) := by decide +kernel
theorem dX7_init_61 : decode cX7_init 61 = .ok (.iconst 4, 1) := by decide +kernel
theorem dX7_init_62 : decode cX7_init 62 = .ok (.anewarray 39, 3) := by decide +kernel
theorem dX7_init_65 : decode cX7_init 65 = .ok (.putfield 41, 3) := by decide +kernel
theorem dX7_init_68 : decode cX7_init 68 = .ok (.iconst 0, 1) := by decide +kernel
theorem dX7_init_69 : decode cX7_init 69 = .ok (.istore_n 1, 1) := by decide +kernel
theorem dX7_init_70 : decode cX7_init 70 = .ok (.iload_n 1, 1) := by decide +kernel
theorem dX7_init_71 : decode cX7_init 71 = .ok (.iconst 4, 1) := by decide +kernel
theorem dX7_init_72 : decode cX7_init 72 = .ok (.if_icmp .ge 26, 3) := by decide +kernel
theorem dX7_init_75 : decode cX7_init 75 = .ok (.aload_n 0, 1) := by decide +kernel
theorem dX7_init_76 : decode cX7_init 76 = .ok (.getfield 41, 3) := by decide +kernel
theorem dX7_init_79 : decode cX7_init 79 = .ok (.iload_n 1, 1) := by decide +kernel
theorem dX7_init_80 : decode cX7_init 80 = .ok (.new 39, 3) := by decide +kernel
theorem dX7_init_83 : decode cX7_init 83 = .ok (.dup, 1) := by decide +kernel
theorem dX7_init_84 : decode cX7_init 84 = .ok (.aload_n 0, 1) := by decide +kernel
theorem dX7_init_85 : decode cX7_init 85 = .ok (.getfield 10, 3) := by decide +kernel
theorem dX7_init_88 : decode cX7_init 88 = .ok (.invokespecial 45, 3) := by decide +kernel
theorem dX7_init_91 : decode cX7_init 91 = .ok (.aastore, 1) := by decide +kernel
theorem dX7_init_92 : decode cX7_init 92 = .ok (.iinc 1 1, 3) := by decide +kernel
theorem dX7_init_95 : decode cX7_init 95 = .ok (.goto (-25), 3) := by decide +kernel
theorem dX7_init_98 : decode cX7_init 98 = .ok (.aload_n 0, 1) := by decide +kernel
theorem dX7_init_99 : decode cX7_init 99 = .ok (.new 46, 3) := by decide +kernel
theorem dX7_init_102 : decode cX7_init 102 = .ok (.dup, 1) := by decide +kernel
theorem dX7_init_103 : decode cX7_init 103 = .ok (.invokespecial 48, 3) := by decide +kernel
theorem dX7_init_106 : decode cX7_init 106 = .ok (.putfield 49, 3) := by decide +kernel
theorem dX7_init_109 : decode cX7_init 109 = .ok (.aload_n 0, 1) := by decide +kernel
theorem dX7_init_110 : decode cX7_init 110 = .ok (.new 53, 3) := by decide +kernel
theorem dX7_init_113 : decode cX7_init 113 = .ok (.dup, 1) := by decide +kernel
theorem dX7_init_114 : decode cX7_init 114 = .ok (.invokespecial 55, 3) := by decide +kernel
theorem dX7_init_117 : decode cX7_init 117 = .ok (.putfield 56, 3) := by decide +kernel
theorem dX7_init_120 : decode cX7_init 120 = .ok (.aload_n 0, 1) := by decide +kernel
theorem dX7_init_121 : decode cX7_init 121 = .ok (.iconst (-1), 1) := by decide +kernel
theorem dX7_init_122 : decode cX7_init 122 = .ok (.putfield 60, 3) := by decide +kernel
theorem dX7_init_125 : decode cX7_init 125 = .ok (.aload_n 0, 1) := by decide +kernel
theorem dX7_init_126 : decode cX7_init 126 = .ok (.iconst 0, 1) := by decide +kernel
theorem dX7_init_127 : decode cX7_init 127 = .ok (.putfield 64, 3) := by decide +kernel
theorem dX7_init_130 : decode cX7_init 130 = .ok (.return_, 1) := by decide +kernel
theorem dX7_wheel_0 : decode cX7_wheel 0 = .ok (.iload_n 1, 1) := by decide +kernel
theorem dX7_wheel_1 : decode cX7_wheel 1 = .ok (.iload_n 2, 1) := by decide +kernel
theorem dX7_wheel_2 : decode cX7_wheel 2 = .ok (.invokestatic 67, 3) := by decide +kernel
theorem dX7_wheel_5 : decode cX7_wheel 5 = .ok (.istore_n 3, 1) := by decide +kernel
theorem dX7_wheel_6 : decode cX7_wheel 6 = .ok (.iload_n 3, 1) := by decide +kernel
theorem dX7_wheel_7 : decode cX7_wheel 7 = .ok (.ifCond .ne 6, 3) := by decide +kernel
theorem dX7_wheel_10 : decode cX7_wheel 10 = .ok (.bipush (-2), 2) := by decide +kernel
theorem dX7_wheel_12 : decode cX7_wheel 12 = .ok (.ireturn, 1) := by decide +kernel
theorem dX7_wheel_13 : decode cX7_wheel 13 = .ok (.aload_n 0, 1) := by decide +kernel
theorem dX7_wheel_14 : decode cX7_wheel 14 = .ok (.getfield 10, 3) := by decide +kernel
theorem dX7_wheel_17 : decode cX7_wheel 17 = .ok (.iload_n 1, 1) := by decide +kernel
theorem dX7_wheel_18 : decode cX7_wheel 18 = .ok (.iload_n 2, 1) := by decide +kernel
theorem dX7_wheel_19 : decode cX7_wheel 19 = .ok (.invokevirtual 71, 3) := by decide +kernel
theorem dX7_wheel_22 : decode cX7_wheel 22 = .ok (.aload_n 0, 1) := by decide +kernel
theorem dX7_wheel_23 : decode cX7_wheel 23 = .ok (.getfield 28, 3) := by decide +kernel
theorem dX7_wheel_26 : decode cX7_wheel 26 = .ok (.invokevirtual 75, 3) := by decide +kernel
theorem dX7_wheel_29 : decode cX7_wheel 29 = .ok (.aload_n 0, 1) := by decide +kernel
theorem dX7_wheel_30 : decode cX7_wheel 30 = .ok (.getfield 35, 3) := by decide +kernel
theorem dX7_wheel_33 : decode cX7_wheel 33 = .ok (.invokevirtual 78, 3) := by decide +kernel
theorem dX7_wheel_36 : decode cX7_wheel 36 = .ok (.aload_n 0, 1) := by decide +kernel
theorem dX7_wheel_37 : decode cX7_wheel 37 = .ok (.iconst (-1), 1) := by decide +kernel
theorem dX7_wheel_38 : decode cX7_wheel 38 = .ok (.putfield 60, 3) := by decide +kernel
theorem dX7_wheel_41 : decode cX7_wheel 41 = .ok (.iload_n 3, 1) := by decide +kernel
theorem dX7_wheel_42 : decode cX7_wheel 42 = .ok (.ireturn, 1) := by decide +kernel
theorem dX7_turn_0 : decode cX7_turn 0 = .ok (.aload_n 0, 1) := by decide +kernel
theorem dX7_turn_1 : decode cX7_turn 1 = .ok (.getfield 10, 3) := by decide +kernel
theorem dX7_turn_4 : decode cX7_turn 4 = .ok (.iload_n 1, 1) := by decide +kernel
theorem dX7_turn_5 : decode cX7_turn 5 = .ok (.invokevirtual 81, 3) := by decide +kernel
theorem dX7_turn_8 : decode cX7_turn 8 = .ok (.ifCond .eq 14, 3) := by decide +kernel
theorem dX7_turn_11 : decode cX7_turn 11 = .ok (.iload_n 2, 1) := by decide +kernel
theorem dX7_turn_12 : decode cX7_turn 12 = .ok (.ifCond .lt 10, 3) := by decide +kernel
theorem dX7_turn_15 : decode cX7_turn 15 = .ok (.iload_n 2, 1) := by decide +kernel
theorem dX7_turn_16 : decode cX7_turn 16 = .ok (.sipush 1000, 3) := by decide +kernel
theorem dX7_turn_19 : decode cX7_turn 19 = .ok (.if_icmp .le 6, 3) := by decide +kernel
theorem dX7_turn_22 : decode cX7_turn 22 = .ok (.bipush (-2), 2) := by decide +kernel
theorem dX7_turn_24 : decode cX7_turn 24 = .ok (.ireturn, 1) := by decide +kernel
theorem dX7_turn_25 : decode cX7_turn 25 = .ok (.aload_n 0, 1) := by decide +kernel
theorem dX7_turn_26 : decode cX7_turn 26 = .ok (.getfield 10, 3) := by decide +kernel
theorem dX7_turn_29 : decode cX7_turn 29 = .ok (.iload_n 1, 1) := by decide +kernel
theorem dX7_turn_30 : decode cX7_turn 30 = .ok (.iload_n 2, 1) := by decide +kernel
theorem dX7_turn_31 : decode cX7_turn 31 = .ok (.invokevirtual 85, 3) := by decide +kernel
theorem dX7_turn_34 : decode cX7_turn 34 = .ok (.ireturn, 1) := by decide +kernel
theorem dX7_least_0 : decode cX7_least 0 = .ok (.aload_n 0, 1) := by decide +kernel
theorem dX7_least_1 : decode cX7_least 1 = .ok (.getfield 10, 3) := by decide +kernel
theorem dX7_least_4 : decode cX7_least 4 = .ok (.iload_n 1, 1) := by decide +kernel
theorem dX7_least_5 : decode cX7_least 5 = .ok (.invokevirtual 81, 3) := by decide +kernel
theorem dX7_least_8 : decode cX7_least 8 = .ok (.ifCond .eq 14, 3) := by decide +kernel
theorem dX7_least_11 : decode cX7_least 11 = .ok (.aload_n 0, 1) := by decide +kernel
theorem dX7_least_12 : decode cX7_least 12 = .ok (.getfield 10, 3) := by decide +kernel
theorem dX7_least_15 : decode cX7_least 15 = .ok (.iload_n 1, 1) := by decide +kernel
theorem dX7_least_16 : decode cX7_least 16 = .ok (.invokevirtual 88, 3) := by decide +kernel
theorem dX7_least_19 : decode cX7_least 19 = .ok (.goto 5, 3) := by decide +kernel
theorem dX7_least_22 : decode cX7_least 22 = .ok (.bipush (-2), 2) := by decide +kernel
theorem dX7_least_24 : decode cX7_least 24 = .ok (.ireturn, 1) := by decide +kernel
theorem dX7_steps_0 : decode cX7_steps 0 = .ok (.aload_n 0, 1) := by decide +kernel
theorem dX7_steps_1 : decode cX7_steps 1 = .ok (.getfield 10, 3) := by decide +kernel
theorem dX7_steps_4 : decode cX7_steps 4 = .ok (.iload_n 1, 1) := by decide +kernel
theorem dX7_steps_5 : decode cX7_steps 5 = .ok (.invokevirtual 81, 3) := by decide +kernel
theorem dX7_steps_8 : decode cX7_steps 8 = .ok (.ifCond .eq 14, 3) := by decide +kernel
theorem dX7_steps_11 : decode cX7_steps 11 = .ok (.aload_n 0, 1) := by decide +kernel
theorem dX7_steps_12 : decode cX7_steps 12 = .ok (.getfield 10, 3) := by decide +kernel
theorem dX7_steps_15 : decode cX7_steps 15 = .ok (.iload_n 1, 1) := by decide +kernel
theorem dX7_steps_16 : decode cX7_steps 16 = .ok (.invokevirtual 92, 3) := by decide +kernel
theorem dX7_steps_19 : decode cX7_steps 19 = .ok (.goto 5, 3) := by decide +kernel
theorem dX7_steps_22 : decode cX7_steps 22 = .ok (.bipush (-2), 2) := by decide +kernel
theorem dX7_steps_24 : decode cX7_steps 24 = .ok (.ireturn, 1) := by decide +kernel
theorem dX7_size_0 : decode cX7_size 0 = .ok (.aload_n 0, 1) := by decide +kernel
theorem dX7_size_1 : decode cX7_size 1 = .ok (.getfield 10, 3) := by decide +kernel
theorem dX7_size_4 : decode cX7_size 4 = .ok (.iload_n 1, 1) := by decide +kernel
theorem dX7_size_5 : decode cX7_size 5 = .ok (.invokevirtual 81, 3) := by decide +kernel
theorem dX7_size_8 : decode cX7_size 8 = .ok (.ifCond .eq 14, 3) := by decide +kernel
theorem dX7_size_11 : decode cX7_size 11 = .ok (.aload_n 0, 1) := by decide +kernel
theorem dX7_size_12 : decode cX7_size 12 = .ok (.getfield 10, 3) := by decide +kernel
theorem dX7_size_15 : decode cX7_size 15 = .ok (.iload_n 1, 1) := by decide +kernel
theorem dX7_size_16 : decode cX7_size 16 = .ok (.invokevirtual 95, 3) := by decide +kernel
theorem dX7_size_19 : decode cX7_size 19 = .ok (.goto 5, 3) := by decide +kernel
theorem dX7_size_22 : decode cX7_size 22 = .ok (.bipush (-2), 2) := by decide +kernel
theorem dX7_size_24 : decode cX7_size 24 = .ok (.ireturn, 1) := by decide +kernel
theorem dX7_even_0 : decode cX7_even 0 = .ok (.aload_n 0, 1) := by decide +kernel
theorem dX7_even_1 : decode cX7_even 1 = .ok (.getfield 10, 3) := by decide +kernel
theorem dX7_even_4 : decode cX7_even 4 = .ok (.iload_n 1, 1) := by decide +kernel
theorem dX7_even_5 : decode cX7_even 5 = .ok (.invokevirtual 81, 3) := by decide +kernel
theorem dX7_even_8 : decode cX7_even 8 = .ok (.ifCond .ne 6, 3) := by decide +kernel
theorem dX7_even_11 : decode cX7_even 11 = .ok (.bipush (-2), 2) := by decide +kernel
theorem dX7_even_13 : decode cX7_even 13 = .ok (.ireturn, 1) := by decide +kernel
theorem dX7_even_14 : decode cX7_even 14 = .ok (.aload_n 0, 1) := by decide +kernel
theorem dX7_even_15 : decode cX7_even 15 = .ok (.getfield 10, 3) := by decide +kernel
theorem dX7_even_18 : decode cX7_even 18 = .ok (.iload_n 1, 1) := by decide +kernel
theorem dX7_even_19 : decode cX7_even 19 = .ok (.invokevirtual 88, 3) := by decide +kernel
theorem dX7_even_22 : decode cX7_even 22 = .ok (.istore_n 2, 1) := by decide +kernel
theorem dX7_even_23 : decode cX7_even 23 = .ok (.aload_n 0, 1) := by decide +kernel
theorem dX7_even_24 : decode cX7_even 24 = .ok (.getfield 10, 3) := by decide +kernel
theorem dX7_even_27 : decode cX7_even 27 = .ok (.aload_n 0, 1) := by decide +kernel
theorem dX7_even_28 : decode cX7_even 28 = .ok (.getfield 10, 3) := by decide +kernel
theorem dX7_even_31 : decode cX7_even 31 = .ok (.iload_n 2, 1) := by decide +kernel
theorem dX7_even_32 : decode cX7_even 32 = .ok (.invokevirtual 98, 3) := by decide +kernel
theorem dX7_even_35 : decode cX7_even 35 = .ok (.invokevirtual 88, 3) := by decide +kernel
theorem dX7_even_38 : decode cX7_even 38 = .ok (.iload_n 2, 1) := by decide +kernel
theorem dX7_even_39 : decode cX7_even 39 = .ok (.if_icmp .ne 7, 3) := by decide +kernel
theorem dX7_even_42 : decode cX7_even 42 = .ok (.iconst 1, 1) := by decide +kernel
theorem dX7_even_43 : decode cX7_even 43 = .ok (.goto 4, 3) := by decide +kernel
theorem dX7_even_46 : decode cX7_even 46 = .ok (.iconst 0, 1) := by decide +kernel
theorem dX7_even_47 : decode cX7_even 47 = .ok (.ireturn, 1) := by decide +kernel
theorem dX7_rings_0 : decode cX7_rings 0 = .ok (.aload_n 0, 1) := by decide +kernel
theorem dX7_rings_1 : decode cX7_rings 1 = .ok (.getfield 21, 3) := by decide +kernel
theorem dX7_rings_4 : decode cX7_rings 4 = .ok (.aload_n 0, 1) := by decide +kernel
theorem dX7_rings_5 : decode cX7_rings 5 = .ok (.getfield 10, 3) := by decide +kernel
theorem dX7_rings_8 : decode cX7_rings 8 = .ok (.getfield 101, 3) := by decide +kernel
theorem dX7_rings_11 : decode cX7_rings 11 = .ok (.iconst 1, 1) := by decide +kernel
theorem dX7_rings_12 : decode cX7_rings 12 = .ok (.isub, 1) := by decide +kernel
theorem dX7_rings_13 : decode cX7_rings 13 = .ok (.invokevirtual 104, 3) := by decide +kernel
theorem dX7_rings_16 : decode cX7_rings 16 = .ok (.ireturn, 1) := by decide +kernel
theorem dX7_ringOf_0 : decode cX7_ringOf 0 = .ok (.aload_n 0, 1) := by decide +kernel
theorem dX7_ringOf_1 : decode cX7_ringOf 1 = .ok (.getfield 10, 3) := by decide +kernel
theorem dX7_ringOf_4 : decode cX7_ringOf 4 = .ok (.iload_n 1, 1) := by decide +kernel
theorem dX7_ringOf_5 : decode cX7_ringOf 5 = .ok (.invokevirtual 81, 3) := by decide +kernel
theorem dX7_ringOf_8 : decode cX7_ringOf 8 = .ok (.ifCond .eq 23, 3) := by decide +kernel
theorem dX7_ringOf_11 : decode cX7_ringOf 11 = .ok (.aload_n 0, 1) := by decide +kernel
theorem dX7_ringOf_12 : decode cX7_ringOf 12 = .ok (.getfield 21, 3) := by decide +kernel
theorem dX7_ringOf_15 : decode cX7_ringOf 15 = .ok (.aload_n 0, 1) := by decide +kernel
theorem dX7_ringOf_16 : decode cX7_ringOf 16 = .ok (.getfield 10, 3) := by decide +kernel
theorem dX7_ringOf_19 : decode cX7_ringOf 19 = .ok (.iload_n 1, 1) := by decide +kernel
theorem dX7_ringOf_20 : decode cX7_ringOf 20 = .ok (.invokevirtual 88, 3) := by decide +kernel
theorem dX7_ringOf_23 : decode cX7_ringOf 23 = .ok (.iconst 1, 1) := by decide +kernel
theorem dX7_ringOf_24 : decode cX7_ringOf 24 = .ok (.isub, 1) := by decide +kernel
theorem dX7_ringOf_25 : decode cX7_ringOf 25 = .ok (.invokevirtual 104, 3) := by decide +kernel
theorem dX7_ringOf_28 : decode cX7_ringOf 28 = .ok (.goto 5, 3) := by decide +kernel
theorem dX7_ringOf_31 : decode cX7_ringOf 31 = .ok (.bipush (-2), 2) := by decide +kernel
theorem dX7_ringOf_33 : decode cX7_ringOf 33 = .ok (.ireturn, 1) := by decide +kernel
theorem dX7_ring_0 : decode cX7_ring 0 = .ok (.iload_n 1, 1) := by decide +kernel
theorem dX7_ring_1 : decode cX7_ring 1 = .ok (.ifCond .lt 11, 3) := by decide +kernel
theorem dX7_ring_4 : decode cX7_ring 4 = .ok (.iload_n 1, 1) := by decide +kernel
theorem dX7_ring_5 : decode cX7_ring 5 = .ok (.aload_n 0, 1) := by decide +kernel
theorem dX7_ring_6 : decode cX7_ring 6 = .ok (.invokevirtual 107, 3) := by decide +kernel
theorem dX7_ring_9 : decode cX7_ring 9 = .ok (.if_icmp .lt 8, 3) := by decide +kernel
theorem dX7_ring_12 : decode cX7_ring 12 = .ok (.bipush (-2), 2) := by decide +kernel
theorem dX7_ring_14 : decode cX7_ring 14 = .ok (.goto 11, 3) := by decide +kernel
theorem dX7_ring_17 : decode cX7_ring 17 = .ok (.aload_n 0, 1) := by decide +kernel
theorem dX7_ring_18 : decode cX7_ring 18 = .ok (.getfield 21, 3) := by decide +kernel
theorem dX7_ring_21 : decode cX7_ring 21 = .ok (.iload_n 1, 1) := by decide +kernel
theorem dX7_ring_22 : decode cX7_ring 22 = .ok (.invokevirtual 111, 3) := by decide +kernel
theorem dX7_ring_25 : decode cX7_ring 25 = .ok (.ireturn, 1) := by decide +kernel
theorem dX7_below_0 : decode cX7_below 0 = .ok (.aload_n 0, 1) := by decide +kernel
theorem dX7_below_1 : decode cX7_below 1 = .ok (.getfield 10, 3) := by decide +kernel
theorem dX7_below_4 : decode cX7_below 4 = .ok (.iload_n 1, 1) := by decide +kernel
theorem dX7_below_5 : decode cX7_below 5 = .ok (.invokevirtual 81, 3) := by decide +kernel
theorem dX7_below_8 : decode cX7_below 8 = .ok (.ifCond .eq 23, 3) := by decide +kernel
theorem dX7_below_11 : decode cX7_below 11 = .ok (.aload_n 0, 1) := by decide +kernel
theorem dX7_below_12 : decode cX7_below 12 = .ok (.getfield 21, 3) := by decide +kernel
theorem dX7_below_15 : decode cX7_below 15 = .ok (.aload_n 0, 1) := by decide +kernel
theorem dX7_below_16 : decode cX7_below 16 = .ok (.getfield 10, 3) := by decide +kernel
theorem dX7_below_19 : decode cX7_below 19 = .ok (.getfield 114, 3) := by decide +kernel
theorem dX7_below_22 : decode cX7_below 22 = .ok (.iload_n 1, 1) := by decide +kernel
theorem dX7_below_23 : decode cX7_below 23 = .ok (.iconst 1, 1) := by decide +kernel
theorem dX7_below_24 : decode cX7_below 24 = .ok (.isub, 1) := by decide +kernel
theorem dX7_below_25 : decode cX7_below 25 = .ok (.invokevirtual 117, 3) := by decide +kernel
theorem dX7_below_28 : decode cX7_below 28 = .ok (.goto 5, 3) := by decide +kernel
theorem dX7_below_31 : decode cX7_below 31 = .ok (.bipush (-2), 2) := by decide +kernel
theorem dX7_below_33 : decode cX7_below 33 = .ok (.ireturn, 1) := by decide +kernel
theorem dX7_content_0 : decode cX7_content 0 = .ok (.aload_n 0, 1) := by decide +kernel
theorem dX7_content_1 : decode cX7_content 1 = .ok (.getfield 21, 3) := by decide +kernel
theorem dX7_content_4 : decode cX7_content 4 = .ok (.iload_n 1, 1) := by decide +kernel
theorem dX7_content_5 : decode cX7_content 5 = .ok (.iload_n 2, 1) := by decide +kernel
theorem dX7_content_6 : decode cX7_content 6 = .ok (.iload_n 3, 1) := by decide +kernel
theorem dX7_content_7 : decode cX7_content 7 = .ok (.iload 4, 2) := by decide +kernel
theorem dX7_content_9 : decode cX7_content 9 = .ok (.iload 5, 2) := by decide +kernel
theorem dX7_content_11 : decode cX7_content 11 = .ok (.invokevirtual 120, 3) := by decide +kernel
theorem dX7_content_14 : decode cX7_content 14 = .ok (.ifCond .eq 13, 3) := by decide +kernel
theorem dX7_content_17 : decode cX7_content 17 = .ok (.aload_n 0, 1) := by decide +kernel
theorem dX7_content_18 : decode cX7_content 18 = .ok (.getfield 21, 3) := by decide +kernel
theorem dX7_content_21 : decode cX7_content 21 = .ok (.invokevirtual 124, 3) := by decide +kernel
theorem dX7_content_24 : decode cX7_content 24 = .ok (.goto 5, 3) := by decide +kernel
theorem dX7_content_27 : decode cX7_content 27 = .ok (.bipush (-2), 2) := by decide +kernel
theorem dX7_content_29 : decode cX7_content 29 = .ok (.ireturn, 1) := by decide +kernel
theorem dX7_factor_0 : decode cX7_factor 0 = .ok (.iload_n 1, 1) := by decide +kernel
theorem dX7_factor_1 : decode cX7_factor 1 = .ok (.ifCond .lt 25, 3) := by decide +kernel
theorem dX7_factor_4 : decode cX7_factor 4 = .ok (.iload_n 1, 1) := by decide +kernel
theorem dX7_factor_5 : decode cX7_factor 5 = .ok (.aload_n 0, 1) := by decide +kernel
theorem dX7_factor_6 : decode cX7_factor 6 = .ok (.getfield 10, 3) := by decide +kernel
theorem dX7_factor_9 : decode cX7_factor 9 = .ok (.getfield 114, 3) := by decide +kernel
theorem dX7_factor_12 : decode cX7_factor 12 = .ok (.if_icmp .ge 14, 3) := by decide +kernel
theorem dX7_factor_15 : decode cX7_factor 15 = .ok (.aload_n 0, 1) := by decide +kernel
theorem dX7_factor_16 : decode cX7_factor 16 = .ok (.getfield 10, 3) := by decide +kernel
theorem dX7_factor_19 : decode cX7_factor 19 = .ok (.iload_n 2, 1) := by decide +kernel
theorem dX7_factor_20 : decode cX7_factor 20 = .ok (.invokevirtual 127, 3) := by decide +kernel
theorem dX7_factor_23 : decode cX7_factor 23 = .ok (.ifCond .ne 6, 3) := by decide +kernel
theorem dX7_factor_26 : decode cX7_factor 26 = .ok (.bipush (-2), 2) := by decide +kernel
theorem dX7_factor_28 : decode cX7_factor 28 = .ok (.ireturn, 1) := by decide +kernel
theorem dX7_factor_29 : decode cX7_factor 29 = .ok (.aload_n 0, 1) := by decide +kernel
theorem dX7_factor_30 : decode cX7_factor 30 = .ok (.getfield 28, 3) := by decide +kernel
theorem dX7_factor_33 : decode cX7_factor 33 = .ok (.iload_n 1, 1) := by decide +kernel
theorem dX7_factor_34 : decode cX7_factor 34 = .ok (.iload_n 2, 1) := by decide +kernel
theorem dX7_factor_35 : decode cX7_factor 35 = .ok (.invokevirtual 130, 3) := by decide +kernel
theorem dX7_factor_38 : decode cX7_factor 38 = .ok (.ireturn, 1) := by decide +kernel
theorem dX7_sum_0 : decode cX7_sum 0 = .ok (.aload_n 0, 1) := by decide +kernel
theorem dX7_sum_1 : decode cX7_sum 1 = .ok (.getfield 10, 3) := by decide +kernel
theorem dX7_sum_4 : decode cX7_sum 4 = .ok (.iload_n 1, 1) := by decide +kernel
theorem dX7_sum_5 : decode cX7_sum 5 = .ok (.invokevirtual 127, 3) := by decide +kernel
theorem dX7_sum_8 : decode cX7_sum 8 = .ok (.ifCond .eq 14, 3) := by decide +kernel
theorem dX7_sum_11 : decode cX7_sum 11 = .ok (.aload_n 0, 1) := by decide +kernel
theorem dX7_sum_12 : decode cX7_sum 12 = .ok (.getfield 28, 3) := by decide +kernel
theorem dX7_sum_15 : decode cX7_sum 15 = .ok (.iload_n 1, 1) := by decide +kernel
theorem dX7_sum_16 : decode cX7_sum 16 = .ok (.invokevirtual 133, 3) := by decide +kernel
theorem dX7_sum_19 : decode cX7_sum 19 = .ok (.goto 5, 3) := by decide +kernel
theorem dX7_sum_22 : decode cX7_sum 22 = .ok (.bipush (-2), 2) := by decide +kernel
theorem dX7_sum_24 : decode cX7_sum 24 = .ok (.ireturn, 1) := by decide +kernel
theorem dX7_go_0 : decode cX7_go 0 = .ok (.aload_n 0, 1) := by decide +kernel
theorem dX7_go_1 : decode cX7_go 1 = .ok (.getfield 10, 3) := by decide +kernel
theorem dX7_go_4 : decode cX7_go 4 = .ok (.iload_n 1, 1) := by decide +kernel
theorem dX7_go_5 : decode cX7_go 5 = .ok (.invokevirtual 81, 3) := by decide +kernel
theorem dX7_go_8 : decode cX7_go 8 = .ok (.ifCond .eq 14, 3) := by decide +kernel
theorem dX7_go_11 : decode cX7_go 11 = .ok (.aload_n 0, 1) := by decide +kernel
theorem dX7_go_12 : decode cX7_go 12 = .ok (.getfield 28, 3) := by decide +kernel
theorem dX7_go_15 : decode cX7_go 15 = .ok (.iload_n 1, 1) := by decide +kernel
theorem dX7_go_16 : decode cX7_go 16 = .ok (.invokevirtual 136, 3) := by decide +kernel
theorem dX7_go_19 : decode cX7_go 19 = .ok (.goto 5, 3) := by decide +kernel
theorem dX7_go_22 : decode cX7_go 22 = .ok (.bipush (-2), 2) := by decide +kernel
theorem dX7_go_24 : decode cX7_go 24 = .ok (.ireturn, 1) := by decide +kernel
theorem dX7_right_0 : decode cX7_right 0 = .ok (.aload_n 0, 1) := by decide +kernel
theorem dX7_right_1 : decode cX7_right 1 = .ok (.getfield 28, 3) := by decide +kernel
theorem dX7_right_4 : decode cX7_right 4 = .ok (.invokevirtual 139, 3) := by decide +kernel
theorem dX7_right_7 : decode cX7_right 7 = .ok (.ifCond .eq 7, 3) := by decide +kernel
theorem dX7_right_10 : decode cX7_right 10 = .ok (.iconst 1, 1) := by decide +kernel
theorem dX7_right_11 : decode cX7_right 11 = .ok (.goto 4, 3) := by decide +kernel
theorem dX7_right_14 : decode cX7_right 14 = .ok (.iconst 0, 1) := by decide +kernel
theorem dX7_right_15 : decode cX7_right 15 = .ok (.ireturn, 1) := by decide +kernel
theorem dX7_exchange_0 : decode cX7_exchange 0 = .ok (.aload_n 0, 1) := by decide +kernel
theorem dX7_exchange_1 : decode cX7_exchange 1 = .ok (.getfield 10, 3) := by decide +kernel
theorem dX7_exchange_4 : decode cX7_exchange 4 = .ok (.iload_n 1, 1) := by decide +kernel
theorem dX7_exchange_5 : decode cX7_exchange 5 = .ok (.invokevirtual 81, 3) := by decide +kernel
theorem dX7_exchange_8 : decode cX7_exchange 8 = .ok (.ifCond .eq 26, 3) := by decide +kernel
theorem dX7_exchange_11 : decode cX7_exchange 11 = .ok (.aload_n 0, 1) := by decide +kernel
theorem dX7_exchange_12 : decode cX7_exchange 12 = .ok (.getfield 10, 3) := by decide +kernel
theorem dX7_exchange_15 : decode cX7_exchange 15 = .ok (.iload_n 2, 1) := by decide +kernel
theorem dX7_exchange_16 : decode cX7_exchange 16 = .ok (.invokevirtual 81, 3) := by decide +kernel
theorem dX7_exchange_19 : decode cX7_exchange 19 = .ok (.ifCond .eq 15, 3) := by decide +kernel
theorem dX7_exchange_22 : decode cX7_exchange 22 = .ok (.aload_n 0, 1) := by decide +kernel
theorem dX7_exchange_23 : decode cX7_exchange 23 = .ok (.getfield 10, 3) := by decide +kernel
theorem dX7_exchange_26 : decode cX7_exchange 26 = .ok (.iload_n 1, 1) := by decide +kernel
theorem dX7_exchange_27 : decode cX7_exchange 27 = .ok (.iload_n 2, 1) := by decide +kernel
theorem dX7_exchange_28 : decode cX7_exchange 28 = .ok (.invokevirtual 143, 3) := by decide +kernel
theorem dX7_exchange_31 : decode cX7_exchange 31 = .ok (.ifCond .ne 6, 3) := by decide +kernel
theorem dX7_exchange_34 : decode cX7_exchange 34 = .ok (.bipush (-2), 2) := by decide +kernel
theorem dX7_exchange_36 : decode cX7_exchange 36 = .ok (.ireturn, 1) := by decide +kernel
theorem dX7_exchange_37 : decode cX7_exchange 37 = .ok (.aload_n 0, 1) := by decide +kernel
theorem dX7_exchange_38 : decode cX7_exchange 38 = .ok (.getfield 28, 3) := by decide +kernel
theorem dX7_exchange_41 : decode cX7_exchange 41 = .ok (.invokevirtual 139, 3) := by decide +kernel
theorem dX7_exchange_44 : decode cX7_exchange 44 = .ok (.ifCond .ne 6, 3) := by decide +kernel
theorem dX7_exchange_47 : decode cX7_exchange 47 = .ok (.bipush (-3), 2) := by decide +kernel
theorem dX7_exchange_49 : decode cX7_exchange 49 = .ok (.ireturn, 1) := by decide +kernel
theorem dX7_exchange_50 : decode cX7_exchange 50 = .ok (.aload_n 0, 1) := by decide +kernel
theorem dX7_exchange_51 : decode cX7_exchange 51 = .ok (.getfield 28, 3) := by decide +kernel
theorem dX7_exchange_54 : decode cX7_exchange 54 = .ok (.invokevirtual 147, 3) := by decide +kernel
theorem dX7_exchange_57 : decode cX7_exchange 57 = .ok (.ifCond .eq 8, 3) := by decide +kernel
theorem dX7_exchange_60 : decode cX7_exchange 60 = .ok (.bipush (-4), 2) := by decide +kernel
theorem dX7_exchange_62 : decode cX7_exchange 62 = .ok (.goto 12, 3) := by decide +kernel
theorem dX7_exchange_65 : decode cX7_exchange 65 = .ok (.aload_n 0, 1) := by decide +kernel
theorem dX7_exchange_66 : decode cX7_exchange 66 = .ok (.getfield 28, 3) := by decide +kernel
theorem dX7_exchange_69 : decode cX7_exchange 69 = .ok (.iload_n 1, 1) := by decide +kernel
theorem dX7_exchange_70 : decode cX7_exchange 70 = .ok (.iload_n 2, 1) := by decide +kernel
theorem dX7_exchange_71 : decode cX7_exchange 71 = .ok (.invokevirtual 150, 3) := by decide +kernel
theorem dX7_exchange_74 : decode cX7_exchange 74 = .ok (.ireturn, 1) := by decide +kernel
theorem dX7_back_0 : decode cX7_back 0 = .ok (.aload_n 0, 1) := by decide +kernel
theorem dX7_back_1 : decode cX7_back 1 = .ok (.getfield 28, 3) := by decide +kernel
theorem dX7_back_4 : decode cX7_back 4 = .ok (.getfield 153, 3) := by decide +kernel
theorem dX7_back_7 : decode cX7_back 7 = .ok (.ifCond .ne 8, 3) := by decide +kernel
theorem dX7_back_10 : decode cX7_back 10 = .ok (.bipush (-3), 2) := by decide +kernel
theorem dX7_back_12 : decode cX7_back 12 = .ok (.goto 10, 3) := by decide +kernel
theorem dX7_back_15 : decode cX7_back 15 = .ok (.aload_n 0, 1) := by decide +kernel
theorem dX7_back_16 : decode cX7_back 16 = .ok (.getfield 28, 3) := by decide +kernel
theorem dX7_back_19 : decode cX7_back 19 = .ok (.invokevirtual 156, 3) := by decide +kernel
theorem dX7_back_22 : decode cX7_back 22 = .ok (.ireturn, 1) := by decide +kernel
theorem dX7_cycles_0 : decode cX7_cycles 0 = .ok (.aload_n 0, 1) := by decide +kernel
theorem dX7_cycles_1 : decode cX7_cycles 1 = .ok (.getfield 28, 3) := by decide +kernel
theorem dX7_cycles_4 : decode cX7_cycles 4 = .ok (.invokevirtual 139, 3) := by decide +kernel
theorem dX7_cycles_7 : decode cX7_cycles 7 = .ok (.ifCond .eq 13, 3) := by decide +kernel
theorem dX7_cycles_10 : decode cX7_cycles 10 = .ok (.aload_n 0, 1) := by decide +kernel
theorem dX7_cycles_11 : decode cX7_cycles 11 = .ok (.getfield 28, 3) := by decide +kernel
theorem dX7_cycles_14 : decode cX7_cycles 14 = .ok (.invokevirtual 159, 3) := by decide +kernel
theorem dX7_cycles_17 : decode cX7_cycles 17 = .ok (.goto 5, 3) := by decide +kernel
theorem dX7_cycles_20 : decode cX7_cycles 20 = .ok (.bipush (-3), 2) := by decide +kernel
theorem dX7_cycles_22 : decode cX7_cycles 22 = .ok (.ireturn, 1) := by decide +kernel
theorem dX7_cycleOf_0 : decode cX7_cycleOf 0 = .ok (.aload_n 0, 1) := by decide +kernel
theorem dX7_cycleOf_1 : decode cX7_cycleOf 1 = .ok (.getfield 28, 3) := by decide +kernel
theorem dX7_cycleOf_4 : decode cX7_cycleOf 4 = .ok (.invokevirtual 139, 3) := by decide +kernel
theorem dX7_cycleOf_7 : decode cX7_cycleOf 7 = .ok (.ifCond .ne 6, 3) := by decide +kernel
theorem dX7_cycleOf_10 : decode cX7_cycleOf 10 = .ok (.bipush (-3), 2) := by decide +kernel
theorem dX7_cycleOf_12 : decode cX7_cycleOf 12 = .ok (.ireturn, 1) := by decide +kernel
theorem dX7_cycleOf_13 : decode cX7_cycleOf 13 = .ok (.aload_n 0, 1) := by decide +kernel
theorem dX7_cycleOf_14 : decode cX7_cycleOf 14 = .ok (.getfield 10, 3) := by decide +kernel
theorem dX7_cycleOf_17 : decode cX7_cycleOf 17 = .ok (.iload_n 1, 1) := by decide +kernel
theorem dX7_cycleOf_18 : decode cX7_cycleOf 18 = .ok (.invokevirtual 81, 3) := by decide +kernel
theorem dX7_cycleOf_21 : decode cX7_cycleOf 21 = .ok (.ifCond .eq 14, 3) := by decide +kernel
theorem dX7_cycleOf_24 : decode cX7_cycleOf 24 = .ok (.aload_n 0, 1) := by decide +kernel
theorem dX7_cycleOf_25 : decode cX7_cycleOf 25 = .ok (.getfield 28, 3) := by decide +kernel
theorem dX7_cycleOf_28 : decode cX7_cycleOf 28 = .ok (.iload_n 1, 1) := by decide +kernel
theorem dX7_cycleOf_29 : decode cX7_cycleOf 29 = .ok (.invokevirtual 162, 3) := by decide +kernel
theorem dX7_cycleOf_32 : decode cX7_cycleOf 32 = .ok (.goto 5, 3) := by decide +kernel
theorem dX7_cycleOf_35 : decode cX7_cycleOf 35 = .ok (.bipush (-2), 2) := by decide +kernel
theorem dX7_cycleOf_37 : decode cX7_cycleOf 37 = .ok (.ireturn, 1) := by decide +kernel
theorem dX7_cycle_0 : decode cX7_cycle 0 = .ok (.aload_n 0, 1) := by decide +kernel
theorem dX7_cycle_1 : decode cX7_cycle 1 = .ok (.getfield 28, 3) := by decide +kernel
theorem dX7_cycle_4 : decode cX7_cycle 4 = .ok (.invokevirtual 139, 3) := by decide +kernel
theorem dX7_cycle_7 : decode cX7_cycle 7 = .ok (.ifCond .ne 6, 3) := by decide +kernel
theorem dX7_cycle_10 : decode cX7_cycle 10 = .ok (.bipush (-3), 2) := by decide +kernel
theorem dX7_cycle_12 : decode cX7_cycle 12 = .ok (.ireturn, 1) := by decide +kernel
theorem dX7_cycle_13 : decode cX7_cycle 13 = .ok (.iload_n 1, 1) := by decide +kernel
theorem dX7_cycle_14 : decode cX7_cycle 14 = .ok (.ifCond .lt 14, 3) := by decide +kernel
theorem dX7_cycle_17 : decode cX7_cycle 17 = .ok (.iload_n 1, 1) := by decide +kernel
theorem dX7_cycle_18 : decode cX7_cycle 18 = .ok (.aload_n 0, 1) := by decide +kernel
theorem dX7_cycle_19 : decode cX7_cycle 19 = .ok (.getfield 28, 3) := by decide +kernel
theorem dX7_cycle_22 : decode cX7_cycle 22 = .ok (.invokevirtual 159, 3) := by decide +kernel
theorem dX7_cycle_25 : decode cX7_cycle 25 = .ok (.if_icmp .lt 6, 3) := by decide +kernel
theorem dX7_cycle_28 : decode cX7_cycle 28 = .ok (.bipush (-2), 2) := by decide +kernel
theorem dX7_cycle_30 : decode cX7_cycle 30 = .ok (.ireturn, 1) := by decide +kernel
theorem dX7_cycle_31 : decode cX7_cycle 31 = .ok (.iload_n 2, 1) := by decide +kernel
theorem dX7_cycle_32 : decode cX7_cycle 32 = .ok (.lookupswitch 46 #[(0, 28), (1, 37)], 28) := by decide +kernel
theorem dX7_cycle_60 : decode cX7_cycle 60 = .ok (.aload_n 0, 1) := by decide +kernel
theorem dX7_cycle_61 : decode cX7_cycle 61 = .ok (.getfield 28, 3) := by decide +kernel
theorem dX7_cycle_64 : decode cX7_cycle 64 = .ok (.iload_n 1, 1) := by decide +kernel
theorem dX7_cycle_65 : decode cX7_cycle 65 = .ok (.invokevirtual 165, 3) := by decide +kernel
theorem dX7_cycle_68 : decode cX7_cycle 68 = .ok (.ireturn, 1) := by decide +kernel
theorem dX7_cycle_69 : decode cX7_cycle 69 = .ok (.aload_n 0, 1) := by decide +kernel
theorem dX7_cycle_70 : decode cX7_cycle 70 = .ok (.getfield 28, 3) := by decide +kernel
theorem dX7_cycle_73 : decode cX7_cycle 73 = .ok (.iload_n 1, 1) := by decide +kernel
theorem dX7_cycle_74 : decode cX7_cycle 74 = .ok (.invokevirtual 168, 3) := by decide +kernel
theorem dX7_cycle_77 : decode cX7_cycle 77 = .ok (.ireturn, 1) := by decide +kernel
theorem dX7_cycle_78 : decode cX7_cycle 78 = .ok (.bipush (-2), 2) := by decide +kernel
theorem dX7_cycle_80 : decode cX7_cycle 80 = .ok (.ireturn, 1) := by decide +kernel
theorem dX7_join_0 : decode cX7_join 0 = .ok (.aload_n 0, 1) := by decide +kernel
theorem dX7_join_1 : decode cX7_join 1 = .ok (.getfield 28, 3) := by decide +kernel
theorem dX7_join_4 : decode cX7_join 4 = .ok (.invokevirtual 139, 3) := by decide +kernel
theorem dX7_join_7 : decode cX7_join 7 = .ok (.ifCond .eq 13, 3) := by decide +kernel
theorem dX7_join_10 : decode cX7_join 10 = .ok (.aload_n 0, 1) := by decide +kernel
theorem dX7_join_11 : decode cX7_join 11 = .ok (.getfield 28, 3) := by decide +kernel
theorem dX7_join_14 : decode cX7_join 14 = .ok (.invokevirtual 171, 3) := by decide +kernel
theorem dX7_join_17 : decode cX7_join 17 = .ok (.goto 5, 3) := by decide +kernel
theorem dX7_join_20 : decode cX7_join 20 = .ok (.bipush (-3), 2) := by decide +kernel
theorem dX7_join_22 : decode cX7_join 22 = .ok (.ireturn, 1) := by decide +kernel
theorem dX7_round_0 : decode cX7_round 0 = .ok (.iload_n 1, 1) := by decide +kernel
theorem dX7_round_1 : decode cX7_round 1 = .ok (.tableswitch 103 0 2 #[27, 42, 57], 27) := by decide +kernel
theorem dX7_round_28 : decode cX7_round 28 = .ok (.aload_n 0, 1) := by decide +kernel
theorem dX7_round_29 : decode cX7_round 29 = .ok (.getfield 35, 3) := by decide +kernel
theorem dX7_round_32 : decode cX7_round 32 = .ok (.invokevirtual 174, 3) := by decide +kernel
theorem dX7_round_35 : decode cX7_round 35 = .ok (.aload_n 0, 1) := by decide +kernel
theorem dX7_round_36 : decode cX7_round 36 = .ok (.getfield 10, 3) := by decide +kernel
theorem dX7_round_39 : decode cX7_round 39 = .ok (.getfield 101, 3) := by decide +kernel
theorem dX7_round_42 : decode cX7_round 42 = .ok (.ireturn, 1) := by decide +kernel
theorem dX7_round_43 : decode cX7_round 43 = .ok (.aload_n 0, 1) := by decide +kernel
theorem dX7_round_44 : decode cX7_round 44 = .ok (.getfield 35, 3) := by decide +kernel
theorem dX7_round_47 : decode cX7_round 47 = .ok (.invokevirtual 177, 3) := by decide +kernel
theorem dX7_round_50 : decode cX7_round 50 = .ok (.aload_n 0, 1) := by decide +kernel
theorem dX7_round_51 : decode cX7_round 51 = .ok (.getfield 10, 3) := by decide +kernel
theorem dX7_round_54 : decode cX7_round 54 = .ok (.getfield 101, 3) := by decide +kernel
theorem dX7_round_57 : decode cX7_round 57 = .ok (.ireturn, 1) := by decide +kernel
theorem dX7_round_58 : decode cX7_round 58 = .ok (.aload_n 0, 1) := by decide +kernel
theorem dX7_round_59 : decode cX7_round 59 = .ok (.getfield 28, 3) := by decide +kernel
theorem dX7_round_62 : decode cX7_round 62 = .ok (.invokevirtual 139, 3) := by decide +kernel
theorem dX7_round_65 : decode cX7_round 65 = .ok (.ifCond .eq 14, 3) := by decide +kernel
theorem dX7_round_68 : decode cX7_round 68 = .ok (.aload_n 0, 1) := by decide +kernel
theorem dX7_round_69 : decode cX7_round 69 = .ok (.getfield 28, 3) := by decide +kernel
theorem dX7_round_72 : decode cX7_round 72 = .ok (.invokevirtual 159, 3) := by decide +kernel
theorem dX7_round_75 : decode cX7_round 75 = .ok (.iconst 1, 1) := by decide +kernel
theorem dX7_round_76 : decode cX7_round 76 = .ok (.if_icmp .eq 6, 3) := by decide +kernel
theorem dX7_round_79 : decode cX7_round 79 = .ok (.bipush (-3), 2) := by decide +kernel
theorem dX7_round_81 : decode cX7_round 81 = .ok (.ireturn, 1) := by decide +kernel
theorem dX7_round_82 : decode cX7_round 82 = .ok (.aload_n 0, 1) := by decide +kernel
theorem dX7_round_83 : decode cX7_round 83 = .ok (.getfield 35, 3) := by decide +kernel
theorem dX7_round_86 : decode cX7_round 86 = .ok (.aload_n 0, 1) := by decide +kernel
theorem dX7_round_87 : decode cX7_round 87 = .ok (.getfield 28, 3) := by decide +kernel
theorem dX7_round_90 : decode cX7_round 90 = .ok (.invokevirtual 180, 3) := by decide +kernel
theorem dX7_round_93 : decode cX7_round 93 = .ok (.invokevirtual 184, 3) := by decide +kernel
theorem dX7_round_96 : decode cX7_round 96 = .ok (.aload_n 0, 1) := by decide +kernel
theorem dX7_round_97 : decode cX7_round 97 = .ok (.getfield 10, 3) := by decide +kernel
theorem dX7_round_100 : decode cX7_round 100 = .ok (.getfield 101, 3) := by decide +kernel
theorem dX7_round_103 : decode cX7_round 103 = .ok (.ireturn, 1) := by decide +kernel
theorem dX7_round_104 : decode cX7_round 104 = .ok (.bipush (-2), 2) := by decide +kernel
theorem dX7_round_106 : decode cX7_round 106 = .ok (.ireturn, 1) := by decide +kernel
theorem dX7_letter_0 : decode cX7_letter 0 = .ok (.aload_n 0, 1) := by decide +kernel
theorem dX7_letter_1 : decode cX7_letter 1 = .ok (.getfield 35, 3) := by decide +kernel
theorem dX7_letter_4 : decode cX7_letter 4 = .ok (.iload_n 1, 1) := by decide +kernel
theorem dX7_letter_5 : decode cX7_letter 5 = .ok (.invokevirtual 188, 3) := by decide +kernel
theorem dX7_letter_8 : decode cX7_letter 8 = .ok (.ifCond .eq 15, 3) := by decide +kernel
theorem dX7_letter_11 : decode cX7_letter 11 = .ok (.aload_n 0, 1) := by decide +kernel
theorem dX7_letter_12 : decode cX7_letter 12 = .ok (.getfield 35, 3) := by decide +kernel
theorem dX7_letter_15 : decode cX7_letter 15 = .ok (.getfield 191, 3) := by decide +kernel
theorem dX7_letter_18 : decode cX7_letter 18 = .ok (.iload_n 1, 1) := by decide +kernel
theorem dX7_letter_19 : decode cX7_letter 19 = .ok (.baload, 1) := by decide +kernel
theorem dX7_letter_20 : decode cX7_letter 20 = .ok (.goto 5, 3) := by decide +kernel
theorem dX7_letter_23 : decode cX7_letter 23 = .ok (.bipush (-2), 2) := by decide +kernel
theorem dX7_letter_25 : decode cX7_letter 25 = .ok (.ireturn, 1) := by decide +kernel
theorem dX7_place_0 : decode cX7_place 0 = .ok (.aload_n 0, 1) := by decide +kernel
theorem dX7_place_1 : decode cX7_place 1 = .ok (.getfield 10, 3) := by decide +kernel
theorem dX7_place_4 : decode cX7_place 4 = .ok (.iload_n 1, 1) := by decide +kernel
theorem dX7_place_5 : decode cX7_place 5 = .ok (.invokevirtual 81, 3) := by decide +kernel
theorem dX7_place_8 : decode cX7_place 8 = .ok (.ifCond .ne 6, 3) := by decide +kernel
theorem dX7_place_11 : decode cX7_place 11 = .ok (.bipush (-2), 2) := by decide +kernel
theorem dX7_place_13 : decode cX7_place 13 = .ok (.ireturn, 1) := by decide +kernel
theorem dX7_place_14 : decode cX7_place 14 = .ok (.aload_n 0, 1) := by decide +kernel
theorem dX7_place_15 : decode cX7_place 15 = .ok (.getfield 35, 3) := by decide +kernel
theorem dX7_place_18 : decode cX7_place 18 = .ok (.invokevirtual 195, 3) := by decide +kernel
theorem dX7_place_21 : decode cX7_place 21 = .ok (.ifCond .eq 15, 3) := by decide +kernel
theorem dX7_place_24 : decode cX7_place 24 = .ok (.aload_n 0, 1) := by decide +kernel
theorem dX7_place_25 : decode cX7_place 25 = .ok (.getfield 35, 3) := by decide +kernel
theorem dX7_place_28 : decode cX7_place 28 = .ok (.getfield 198, 3) := by decide +kernel
theorem dX7_place_31 : decode cX7_place 31 = .ok (.iload_n 1, 1) := by decide +kernel
theorem dX7_place_32 : decode cX7_place 32 = .ok (.iaload, 1) := by decide +kernel
theorem dX7_place_33 : decode cX7_place 33 = .ok (.goto 5, 3) := by decide +kernel
theorem dX7_place_36 : decode cX7_place 36 = .ok (.bipush (-3), 2) := by decide +kernel
theorem dX7_place_38 : decode cX7_place 38 = .ok (.ireturn, 1) := by decide +kernel
theorem dX7_way_0 : decode cX7_way 0 = .ok (.aload_n 0, 1) := by decide +kernel
theorem dX7_way_1 : decode cX7_way 1 = .ok (.getfield 35, 3) := by decide +kernel
theorem dX7_way_4 : decode cX7_way 4 = .ok (.iload_n 1, 1) := by decide +kernel
theorem dX7_way_5 : decode cX7_way 5 = .ok (.invokevirtual 188, 3) := by decide +kernel
theorem dX7_way_8 : decode cX7_way 8 = .ok (.ifCond .eq 14, 3) := by decide +kernel
theorem dX7_way_11 : decode cX7_way 11 = .ok (.aload_n 0, 1) := by decide +kernel
theorem dX7_way_12 : decode cX7_way 12 = .ok (.getfield 35, 3) := by decide +kernel
theorem dX7_way_15 : decode cX7_way 15 = .ok (.iload_n 2, 1) := by decide +kernel
theorem dX7_way_16 : decode cX7_way 16 = .ok (.invokevirtual 188, 3) := by decide +kernel
theorem dX7_way_19 : decode cX7_way 19 = .ok (.ifCond .ne 6, 3) := by decide +kernel
theorem dX7_way_22 : decode cX7_way 22 = .ok (.bipush (-2), 2) := by decide +kernel
theorem dX7_way_24 : decode cX7_way 24 = .ok (.ireturn, 1) := by decide +kernel
theorem dX7_way_25 : decode cX7_way 25 = .ok (.iload_n 1, 1) := by decide +kernel
theorem dX7_way_26 : decode cX7_way 26 = .ok (.iload_n 2, 1) := by decide +kernel
theorem dX7_way_27 : decode cX7_way 27 = .ok (.if_icmp .gt 9, 3) := by decide +kernel
theorem dX7_way_30 : decode cX7_way 30 = .ok (.iload_n 2, 1) := by decide +kernel
theorem dX7_way_31 : decode cX7_way 31 = .ok (.iload_n 1, 1) := by decide +kernel
theorem dX7_way_32 : decode cX7_way 32 = .ok (.isub, 1) := by decide +kernel
theorem dX7_way_33 : decode cX7_way 33 = .ok (.goto 14, 3) := by decide +kernel
theorem dX7_way_36 : decode cX7_way 36 = .ok (.iload_n 2, 1) := by decide +kernel
theorem dX7_way_37 : decode cX7_way 37 = .ok (.iload_n 1, 1) := by decide +kernel
theorem dX7_way_38 : decode cX7_way 38 = .ok (.isub, 1) := by decide +kernel
theorem dX7_way_39 : decode cX7_way 39 = .ok (.aload_n 0, 1) := by decide +kernel
theorem dX7_way_40 : decode cX7_way 40 = .ok (.getfield 10, 3) := by decide +kernel
theorem dX7_way_43 : decode cX7_way 43 = .ok (.getfield 101, 3) := by decide +kernel
theorem dX7_way_46 : decode cX7_way 46 = .ok (.iadd, 1) := by decide +kernel
theorem dX7_way_47 : decode cX7_way 47 = .ok (.ireturn, 1) := by decide +kernel
theorem dX7_tape_0 : decode cX7_tape 0 = .ok (.iload_n 1, 1) := by decide +kernel
theorem dX7_tape_1 : decode cX7_tape 1 = .ok (.invokestatic 202, 3) := by decide +kernel
theorem dX7_tape_4 : decode cX7_tape 4 = .ok (.ifCond .eq 17, 3) := by decide +kernel
theorem dX7_tape_7 : decode cX7_tape 7 = .ok (.iload_n 2, 1) := by decide +kernel
theorem dX7_tape_8 : decode cX7_tape 8 = .ok (.invokestatic 205, 3) := by decide +kernel
theorem dX7_tape_11 : decode cX7_tape 11 = .ok (.ifCond .eq 10, 3) := by decide +kernel
theorem dX7_tape_14 : decode cX7_tape 14 = .ok (.iload_n 3, 1) := by decide +kernel
theorem dX7_tape_15 : decode cX7_tape 15 = .ok (.sipush 200, 3) := by decide +kernel
theorem dX7_tape_18 : decode cX7_tape 18 = .ok (.if_icmp .le 6, 3) := by decide +kernel
theorem dX7_tape_21 : decode cX7_tape 21 = .ok (.bipush (-2), 2) := by decide +kernel
theorem dX7_tape_23 : decode cX7_tape 23 = .ok (.ireturn, 1) := by decide +kernel
theorem dX7_tape_24 : decode cX7_tape 24 = .ok (.iload_n 3, 1) := by decide +kernel
theorem dX7_tape_25 : decode cX7_tape 25 = .ok (.ifCond .ge 9, 3) := by decide +kernel
theorem dX7_tape_28 : decode cX7_tape 28 = .ok (.aload_n 0, 1) := by decide +kernel
theorem dX7_tape_29 : decode cX7_tape 29 = .ok (.iconst 5, 1) := by decide +kernel
theorem dX7_tape_30 : decode cX7_tape 30 = .ok (.invokevirtual 208, 3) := by decide +kernel
theorem dX7_tape_33 : decode cX7_tape 33 = .ok (.ireturn, 1) := by decide +kernel
theorem dX7_tape_34 : decode cX7_tape 34 = .ok (.aload_n 0, 1) := by decide +kernel
theorem dX7_tape_35 : decode cX7_tape 35 = .ok (.getfield 41, 3) := by decide +kernel
theorem dX7_tape_38 : decode cX7_tape 38 = .ok (.iload_n 1, 1) := by decide +kernel
theorem dX7_tape_39 : decode cX7_tape 39 = .ok (.aaload, 1) := by decide +kernel
theorem dX7_tape_40 : decode cX7_tape 40 = .ok (.iload_n 2, 1) := by decide +kernel
theorem dX7_tape_41 : decode cX7_tape 41 = .ok (.iload_n 3, 1) := by decide +kernel
theorem dX7_tape_42 : decode cX7_tape 42 = .ok (.invokevirtual 211, 3) := by decide +kernel
theorem dX7_tape_45 : decode cX7_tape 45 = .ok (.iload_n 3, 1) := by decide +kernel
theorem dX7_tape_46 : decode cX7_tape 46 = .ok (.ireturn, 1) := by decide +kernel
theorem dX7_lose_0 : decode cX7_lose 0 = .ok (.iload_n 1, 1) := by decide +kernel
theorem dX7_lose_1 : decode cX7_lose 1 = .ok (.invokestatic 202, 3) := by decide +kernel
theorem dX7_lose_4 : decode cX7_lose 4 = .ok (.ifCond .ne 6, 3) := by decide +kernel
theorem dX7_lose_7 : decode cX7_lose 7 = .ok (.bipush (-2), 2) := by decide +kernel
theorem dX7_lose_9 : decode cX7_lose 9 = .ok (.ireturn, 1) := by decide +kernel
theorem dX7_lose_10 : decode cX7_lose 10 = .ok (.aload_n 0, 1) := by decide +kernel
theorem dX7_lose_11 : decode cX7_lose 11 = .ok (.getfield 41, 3) := by decide +kernel
theorem dX7_lose_14 : decode cX7_lose 14 = .ok (.iload_n 1, 1) := by decide +kernel
theorem dX7_lose_15 : decode cX7_lose 15 = .ok (.aaload, 1) := by decide +kernel
theorem dX7_lose_16 : decode cX7_lose 16 = .ok (.invokevirtual 214, 3) := by decide +kernel
theorem dX7_lose_19 : decode cX7_lose 19 = .ok (.ifCond .eq 11, 3) := by decide +kernel
theorem dX7_lose_22 : decode cX7_lose 22 = .ok (.aload_n 0, 1) := by decide +kernel
theorem dX7_lose_23 : decode cX7_lose 23 = .ok (.iconst 1, 1) := by decide +kernel
theorem dX7_lose_24 : decode cX7_lose 24 = .ok (.invokevirtual 208, 3) := by decide +kernel
theorem dX7_lose_27 : decode cX7_lose 27 = .ok (.goto 12, 3) := by decide +kernel
theorem dX7_lose_30 : decode cX7_lose 30 = .ok (.aload_n 0, 1) := by decide +kernel
theorem dX7_lose_31 : decode cX7_lose 31 = .ok (.getfield 41, 3) := by decide +kernel
theorem dX7_lose_34 : decode cX7_lose 34 = .ok (.iload_n 1, 1) := by decide +kernel
theorem dX7_lose_35 : decode cX7_lose 35 = .ok (.aaload, 1) := by decide +kernel
theorem dX7_lose_36 : decode cX7_lose 36 = .ok (.invokevirtual 217, 3) := by decide +kernel
theorem dX7_lose_39 : decode cX7_lose 39 = .ok (.ireturn, 1) := by decide +kernel
theorem dX7_put_0 : decode cX7_put 0 = .ok (.iload_n 1, 1) := by decide +kernel
theorem dX7_put_1 : decode cX7_put 1 = .ok (.invokestatic 202, 3) := by decide +kernel
theorem dX7_put_4 : decode cX7_put 4 = .ok (.ifCond .eq 10, 3) := by decide +kernel
theorem dX7_put_7 : decode cX7_put 7 = .ok (.iload_n 2, 1) := by decide +kernel
theorem dX7_put_8 : decode cX7_put 8 = .ok (.invokestatic 205, 3) := by decide +kernel
theorem dX7_put_11 : decode cX7_put 11 = .ok (.ifCond .ne 6, 3) := by decide +kernel
theorem dX7_put_14 : decode cX7_put 14 = .ok (.bipush (-2), 2) := by decide +kernel
theorem dX7_put_16 : decode cX7_put 16 = .ok (.ireturn, 1) := by decide +kernel
theorem dX7_put_17 : decode cX7_put 17 = .ok (.aload_n 0, 1) := by decide +kernel
theorem dX7_put_18 : decode cX7_put 18 = .ok (.getfield 41, 3) := by decide +kernel
theorem dX7_put_21 : decode cX7_put 21 = .ok (.iload_n 1, 1) := by decide +kernel
theorem dX7_put_22 : decode cX7_put 22 = .ok (.aaload, 1) := by decide +kernel
theorem dX7_put_23 : decode cX7_put 23 = .ok (.iload_n 2, 1) := by decide +kernel
theorem dX7_put_24 : decode cX7_put 24 = .ok (.iload_n 3, 1) := by decide +kernel
theorem dX7_put_25 : decode cX7_put 25 = .ok (.invokestatic 219, 3) := by decide +kernel
theorem dX7_put_28 : decode cX7_put 28 = .ok (.istore 5, 2) := by decide +kernel
theorem dX7_put_30 : decode cX7_put 30 = .ok (.iload 5, 2) := by decide +kernel
theorem dX7_put_32 : decode cX7_put 32 = .ok (.ifCond .eq 10, 3) := by decide +kernel
theorem dX7_put_35 : decode cX7_put 35 = .ok (.aload_n 0, 1) := by decide +kernel
theorem dX7_put_36 : decode cX7_put 36 = .ok (.iload 5, 2) := by decide +kernel
theorem dX7_put_38 : decode cX7_put 38 = .ok (.invokevirtual 208, 3) := by decide +kernel
theorem dX7_put_41 : decode cX7_put 41 = .ok (.ireturn, 1) := by decide +kernel
theorem dX7_put_42 : decode cX7_put 42 = .ok (.aload_n 0, 1) := by decide +kernel
theorem dX7_put_43 : decode cX7_put 43 = .ok (.getfield 41, 3) := by decide +kernel
theorem dX7_put_46 : decode cX7_put 46 = .ok (.iload_n 1, 1) := by decide +kernel
theorem dX7_put_47 : decode cX7_put 47 = .ok (.aaload, 1) := by decide +kernel
theorem dX7_put_48 : decode cX7_put 48 = .ok (.getfield 223, 3) := by decide +kernel
theorem dX7_put_51 : decode cX7_put 51 = .ok (.iload_n 3, 1) := by decide +kernel
theorem dX7_put_52 : decode cX7_put 52 = .ok (.aload_n 0, 1) := by decide +kernel
theorem dX7_put_53 : decode cX7_put 53 = .ok (.getfield 41, 3) := by decide +kernel
theorem dX7_put_56 : decode cX7_put 56 = .ok (.iload_n 1, 1) := by decide +kernel
theorem dX7_put_57 : decode cX7_put 57 = .ok (.aaload, 1) := by decide +kernel
theorem dX7_put_58 : decode cX7_put 58 = .ok (.iload 4, 2) := by decide +kernel
theorem dX7_put_60 : decode cX7_put 60 = .ok (.invokevirtual 226, 3) := by decide +kernel
theorem dX7_put_63 : decode cX7_put 63 = .ok (.iastore, 1) := by decide +kernel
theorem dX7_put_64 : decode cX7_put 64 = .ok (.iconst 1, 1) := by decide +kernel
theorem dX7_put_65 : decode cX7_put 65 = .ok (.ireturn, 1) := by decide +kernel
theorem dX7_get_0 : decode cX7_get 0 = .ok (.iload_n 1, 1) := by decide +kernel
theorem dX7_get_1 : decode cX7_get 1 = .ok (.invokestatic 202, 3) := by decide +kernel
theorem dX7_get_4 : decode cX7_get 4 = .ok (.ifCond .eq 10, 3) := by decide +kernel
theorem dX7_get_7 : decode cX7_get 7 = .ok (.iload_n 2, 1) := by decide +kernel
theorem dX7_get_8 : decode cX7_get 8 = .ok (.invokestatic 205, 3) := by decide +kernel
theorem dX7_get_11 : decode cX7_get 11 = .ok (.ifCond .ne 6, 3) := by decide +kernel
theorem dX7_get_14 : decode cX7_get 14 = .ok (.ldc 231, 2) := by decide +kernel
theorem dX7_get_16 : decode cX7_get 16 = .ok (.ireturn, 1) := by decide +kernel
theorem dX7_get_17 : decode cX7_get 17 = .ok (.aload_n 0, 1) := by decide +kernel
theorem dX7_get_18 : decode cX7_get 18 = .ok (.getfield 41, 3) := by decide +kernel
theorem dX7_get_21 : decode cX7_get 21 = .ok (.iload_n 1, 1) := by decide +kernel
theorem dX7_get_22 : decode cX7_get 22 = .ok (.aaload, 1) := by decide +kernel
theorem dX7_get_23 : decode cX7_get 23 = .ok (.iload_n 2, 1) := by decide +kernel
theorem dX7_get_24 : decode cX7_get 24 = .ok (.iload_n 3, 1) := by decide +kernel
theorem dX7_get_25 : decode cX7_get 25 = .ok (.invokestatic 219, 3) := by decide +kernel
theorem dX7_get_28 : decode cX7_get 28 = .ok (.istore 4, 2) := by decide +kernel
theorem dX7_get_30 : decode cX7_get 30 = .ok (.iload 4, 2) := by decide +kernel
theorem dX7_get_32 : decode cX7_get 32 = .ok (.ifCond .eq 12, 3) := by decide +kernel
theorem dX7_get_35 : decode cX7_get 35 = .ok (.aload_n 0, 1) := by decide +kernel
theorem dX7_get_36 : decode cX7_get 36 = .ok (.iload 4, 2) := by decide +kernel
theorem dX7_get_38 : decode cX7_get 38 = .ok (.putfield 64, 3) := by decide +kernel
theorem dX7_get_41 : decode cX7_get 41 = .ok (.ldc 231, 2) := by decide +kernel
theorem dX7_get_43 : decode cX7_get 43 = .ok (.ireturn, 1) := by decide +kernel
theorem dX7_get_44 : decode cX7_get 44 = .ok (.aload_n 0, 1) := by decide +kernel
theorem dX7_get_45 : decode cX7_get 45 = .ok (.getfield 41, 3) := by decide +kernel
theorem dX7_get_48 : decode cX7_get 48 = .ok (.iload_n 1, 1) := by decide +kernel
theorem dX7_get_49 : decode cX7_get 49 = .ok (.aaload, 1) := by decide +kernel
theorem dX7_get_50 : decode cX7_get 50 = .ok (.getfield 223, 3) := by decide +kernel
theorem dX7_get_53 : decode cX7_get 53 = .ok (.iload_n 3, 1) := by decide +kernel
theorem dX7_get_54 : decode cX7_get 54 = .ok (.iaload, 1) := by decide +kernel
theorem dX7_get_55 : decode cX7_get 55 = .ok (.ireturn, 1) := by decide +kernel
theorem dX7_copy_0 : decode cX7_copy 0 = .ok (.iload_n 1, 1) := by decide +kernel
theorem dX7_copy_1 : decode cX7_copy 1 = .ok (.invokestatic 202, 3) := by decide +kernel
theorem dX7_copy_4 : decode cX7_copy 4 = .ok (.ifCond .eq 10, 3) := by decide +kernel
theorem dX7_copy_7 : decode cX7_copy 7 = .ok (.iload_n 3, 1) := by decide +kernel
theorem dX7_copy_8 : decode cX7_copy 8 = .ok (.invokestatic 202, 3) := by decide +kernel
theorem dX7_copy_11 : decode cX7_copy 11 = .ok (.ifCond .ne 6, 3) := by decide +kernel
theorem dX7_copy_14 : decode cX7_copy 14 = .ok (.bipush (-2), 2) := by decide +kernel
theorem dX7_copy_16 : decode cX7_copy 16 = .ok (.ireturn, 1) := by decide +kernel
theorem dX7_copy_17 : decode cX7_copy 17 = .ok (.aload_n 0, 1) := by decide +kernel
theorem dX7_copy_18 : decode cX7_copy 18 = .ok (.getfield 41, 3) := by decide +kernel
theorem dX7_copy_21 : decode cX7_copy 21 = .ok (.iload_n 1, 1) := by decide +kernel
theorem dX7_copy_22 : decode cX7_copy 22 = .ok (.aaload, 1) := by decide +kernel
theorem dX7_copy_23 : decode cX7_copy 23 = .ok (.astore 6, 2) := by decide +kernel
theorem dX7_copy_25 : decode cX7_copy 25 = .ok (.aload_n 0, 1) := by decide +kernel
theorem dX7_copy_26 : decode cX7_copy 26 = .ok (.getfield 41, 3) := by decide +kernel
theorem dX7_copy_29 : decode cX7_copy 29 = .ok (.iload_n 3, 1) := by decide +kernel
theorem dX7_copy_30 : decode cX7_copy 30 = .ok (.aaload, 1) := by decide +kernel
theorem dX7_copy_31 : decode cX7_copy 31 = .ok (.astore 7, 2) := by decide +kernel
theorem dX7_copy_33 : decode cX7_copy 33 = .ok (.aload 6, 2) := by decide +kernel
theorem dX7_copy_35 : decode cX7_copy 35 = .ok (.invokevirtual 214, 3) := by decide +kernel
theorem dX7_copy_38 : decode cX7_copy 38 = .ok (.ifCond .ne 11, 3) := by decide +kernel
theorem dX7_copy_41 : decode cX7_copy 41 = .ok (.aload 7, 2) := by decide +kernel
theorem dX7_copy_43 : decode cX7_copy 43 = .ok (.invokevirtual 214, 3) := by decide +kernel
theorem dX7_copy_46 : decode cX7_copy 46 = .ok (.ifCond .eq 9, 3) := by decide +kernel
theorem dX7_copy_49 : decode cX7_copy 49 = .ok (.aload_n 0, 1) := by decide +kernel
theorem dX7_copy_50 : decode cX7_copy 50 = .ok (.iconst 1, 1) := by decide +kernel
theorem dX7_copy_51 : decode cX7_copy 51 = .ok (.invokevirtual 208, 3) := by decide +kernel
theorem dX7_copy_54 : decode cX7_copy 54 = .ok (.ireturn, 1) := by decide +kernel
theorem dX7_copy_55 : decode cX7_copy 55 = .ok (.aload 6, 2) := by decide +kernel
theorem dX7_copy_57 : decode cX7_copy 57 = .ok (.getfield 232, 3) := by decide +kernel
theorem dX7_copy_60 : decode cX7_copy 60 = .ok (.aload 7, 2) := by decide +kernel
theorem dX7_copy_62 : decode cX7_copy 62 = .ok (.getfield 232, 3) := by decide +kernel
theorem dX7_copy_65 : decode cX7_copy 65 = .ok (.if_icmp .eq 9, 3) := by decide +kernel
theorem dX7_copy_68 : decode cX7_copy 68 = .ok (.aload_n 0, 1) := by decide +kernel
theorem dX7_copy_69 : decode cX7_copy 69 = .ok (.iconst 4, 1) := by decide +kernel
theorem dX7_copy_70 : decode cX7_copy 70 = .ok (.invokevirtual 208, 3) := by decide +kernel
theorem dX7_copy_73 : decode cX7_copy 73 = .ok (.ireturn, 1) := by decide +kernel
theorem dX7_copy_74 : decode cX7_copy 74 = .ok (.aload 6, 2) := by decide +kernel
theorem dX7_copy_76 : decode cX7_copy 76 = .ok (.iload_n 2, 1) := by decide +kernel
theorem dX7_copy_77 : decode cX7_copy 77 = .ok (.iload 5, 2) := by decide +kernel
theorem dX7_copy_79 : decode cX7_copy 79 = .ok (.invokevirtual 235, 3) := by decide +kernel
theorem dX7_copy_82 : decode cX7_copy 82 = .ok (.ifCond .eq 15, 3) := by decide +kernel
theorem dX7_copy_85 : decode cX7_copy 85 = .ok (.aload 7, 2) := by decide +kernel
theorem dX7_copy_87 : decode cX7_copy 87 = .ok (.iload 4, 2) := by decide +kernel
theorem dX7_copy_89 : decode cX7_copy 89 = .ok (.iload 5, 2) := by decide +kernel
theorem dX7_copy_91 : decode cX7_copy 91 = .ok (.invokevirtual 235, 3) := by decide +kernel
theorem dX7_copy_94 : decode cX7_copy 94 = .ok (.ifCond .ne 9, 3) := by decide +kernel
theorem dX7_copy_97 : decode cX7_copy 97 = .ok (.aload_n 0, 1) := by decide +kernel
theorem dX7_copy_98 : decode cX7_copy 98 = .ok (.iconst 2, 1) := by decide +kernel
theorem dX7_copy_99 : decode cX7_copy 99 = .ok (.invokevirtual 208, 3) := by decide +kernel
theorem dX7_copy_102 : decode cX7_copy 102 = .ok (.ireturn, 1) := by decide +kernel
theorem dX7_copy_103 : decode cX7_copy 103 = .ok (.aload 6, 2) := by decide +kernel
theorem dX7_copy_105 : decode cX7_copy 105 = .ok (.getfield 223, 3) := by decide +kernel
theorem dX7_copy_108 : decode cX7_copy 108 = .ok (.iload_n 2, 1) := by decide +kernel
theorem dX7_copy_109 : decode cX7_copy 109 = .ok (.aload 7, 2) := by decide +kernel
theorem dX7_copy_111 : decode cX7_copy 111 = .ok (.getfield 223, 3) := by decide +kernel
theorem dX7_copy_114 : decode cX7_copy 114 = .ok (.iload 4, 2) := by decide +kernel
theorem dX7_copy_116 : decode cX7_copy 116 = .ok (.iload 5, 2) := by decide +kernel
theorem dX7_copy_118 : decode cX7_copy 118 = .ok (.invokestatic 238, 3) := by decide +kernel
theorem dX7_copy_121 : decode cX7_copy 121 = .ok (.iconst 1, 1) := by decide +kernel
theorem dX7_copy_122 : decode cX7_copy 122 = .ok (.ireturn, 1) := by decide +kernel
theorem dX7_print_0 : decode cX7_print 0 = .ok (.iload_n 1, 1) := by decide +kernel
theorem dX7_print_1 : decode cX7_print 1 = .ok (.invokestatic 202, 3) := by decide +kernel
theorem dX7_print_4 : decode cX7_print 4 = .ok (.ifCond .eq 23, 3) := by decide +kernel
theorem dX7_print_7 : decode cX7_print 7 = .ok (.iload_n 3, 1) := by decide +kernel
theorem dX7_print_8 : decode cX7_print 8 = .ok (.ifCond .lt 19, 3) := by decide +kernel
theorem dX7_print_11 : decode cX7_print 11 = .ok (.iload_n 3, 1) := by decide +kernel
theorem dX7_print_12 : decode cX7_print 12 = .ok (.aload_n 0, 1) := by decide +kernel
theorem dX7_print_13 : decode cX7_print 13 = .ok (.getfield 10, 3) := by decide +kernel
theorem dX7_print_16 : decode cX7_print 16 = .ok (.getfield 101, 3) := by decide +kernel
theorem dX7_print_19 : decode cX7_print 19 = .ok (.if_icmp .ge 8, 3) := by decide +kernel
theorem dX7_print_22 : decode cX7_print 22 = .ok (.iload 4, 2) := by decide +kernel
theorem dX7_print_24 : decode cX7_print 24 = .ok (.ifCond .ge 6, 3) := by decide +kernel
theorem dX7_print_27 : decode cX7_print 27 = .ok (.bipush (-2), 2) := by decide +kernel
theorem dX7_print_29 : decode cX7_print 29 = .ok (.ireturn, 1) := by decide +kernel
theorem dX7_print_30 : decode cX7_print 30 = .ok (.aload_n 0, 1) := by decide +kernel
theorem dX7_print_31 : decode cX7_print 31 = .ok (.getfield 35, 3) := by decide +kernel
theorem dX7_print_34 : decode cX7_print 34 = .ok (.invokevirtual 195, 3) := by decide +kernel
theorem dX7_print_37 : decode cX7_print 37 = .ok (.ifCond .ne 6, 3) := by decide +kernel
theorem dX7_print_40 : decode cX7_print 40 = .ok (.bipush (-3), 2) := by decide +kernel
theorem dX7_print_42 : decode cX7_print 42 = .ok (.ireturn, 1) := by decide +kernel
theorem dX7_print_43 : decode cX7_print 43 = .ok (.aload_n 0, 1) := by decide +kernel
theorem dX7_print_44 : decode cX7_print 44 = .ok (.getfield 41, 3) := by decide +kernel
theorem dX7_print_47 : decode cX7_print 47 = .ok (.iload_n 1, 1) := by decide +kernel
theorem dX7_print_48 : decode cX7_print 48 = .ok (.aaload, 1) := by decide +kernel
theorem dX7_print_49 : decode cX7_print 49 = .ok (.invokevirtual 214, 3) := by decide +kernel
theorem dX7_print_52 : decode cX7_print 52 = .ok (.ifCond .eq 9, 3) := by decide +kernel
theorem dX7_print_55 : decode cX7_print 55 = .ok (.aload_n 0, 1) := by decide +kernel
theorem dX7_print_56 : decode cX7_print 56 = .ok (.iconst 1, 1) := by decide +kernel
theorem dX7_print_57 : decode cX7_print 57 = .ok (.invokevirtual 208, 3) := by decide +kernel
theorem dX7_print_60 : decode cX7_print 60 = .ok (.ireturn, 1) := by decide +kernel
theorem dX7_print_61 : decode cX7_print 61 = .ok (.aload_n 0, 1) := by decide +kernel
theorem dX7_print_62 : decode cX7_print 62 = .ok (.getfield 41, 3) := by decide +kernel
theorem dX7_print_65 : decode cX7_print 65 = .ok (.iload_n 1, 1) := by decide +kernel
theorem dX7_print_66 : decode cX7_print 66 = .ok (.aaload, 1) := by decide +kernel
theorem dX7_print_67 : decode cX7_print 67 = .ok (.iload_n 2, 1) := by decide +kernel
theorem dX7_print_68 : decode cX7_print 68 = .ok (.iload 4, 2) := by decide +kernel
theorem dX7_print_70 : decode cX7_print 70 = .ok (.invokevirtual 235, 3) := by decide +kernel
theorem dX7_print_73 : decode cX7_print 73 = .ok (.ifCond .ne 9, 3) := by decide +kernel
theorem dX7_print_76 : decode cX7_print 76 = .ok (.aload_n 0, 1) := by decide +kernel
theorem dX7_print_77 : decode cX7_print 77 = .ok (.iconst 2, 1) := by decide +kernel
theorem dX7_print_78 : decode cX7_print 78 = .ok (.invokevirtual 208, 3) := by decide +kernel
theorem dX7_print_81 : decode cX7_print 81 = .ok (.ireturn, 1) := by decide +kernel
theorem dX7_print_82 : decode cX7_print 82 = .ok (.aload_n 0, 1) := by decide +kernel
theorem dX7_print_83 : decode cX7_print 83 = .ok (.getfield 35, 3) := by decide +kernel
theorem dX7_print_86 : decode cX7_print 86 = .ok (.iload_n 3, 1) := by decide +kernel
theorem dX7_print_87 : decode cX7_print 87 = .ok (.iload 4, 2) := by decide +kernel
theorem dX7_print_89 : decode cX7_print 89 = .ok (.aload_n 0, 1) := by decide +kernel
theorem dX7_print_90 : decode cX7_print 90 = .ok (.getfield 41, 3) := by decide +kernel
theorem dX7_print_93 : decode cX7_print 93 = .ok (.iload_n 1, 1) := by decide +kernel
theorem dX7_print_94 : decode cX7_print 94 = .ok (.aaload, 1) := by decide +kernel
theorem dX7_print_95 : decode cX7_print 95 = .ok (.getfield 223, 3) := by decide +kernel
theorem dX7_print_98 : decode cX7_print 98 = .ok (.iload_n 2, 1) := by decide +kernel
theorem dX7_print_99 : decode cX7_print 99 = .ok (.invokevirtual 244, 3) := by decide +kernel
theorem dX7_print_102 : decode cX7_print 102 = .ok (.iload 4, 2) := by decide +kernel
theorem dX7_print_104 : decode cX7_print 104 = .ok (.ireturn, 1) := by decide +kernel
theorem dX7_find_0 : decode cX7_find 0 = .ok (.iload_n 1, 1) := by decide +kernel
theorem dX7_find_1 : decode cX7_find 1 = .ok (.invokestatic 202, 3) := by decide +kernel
theorem dX7_find_4 : decode cX7_find 4 = .ok (.ifCond .eq 26, 3) := by decide +kernel
theorem dX7_find_7 : decode cX7_find 7 = .ok (.iload_n 3, 1) := by decide +kernel
theorem dX7_find_8 : decode cX7_find 8 = .ok (.iconst 1, 1) := by decide +kernel
theorem dX7_find_9 : decode cX7_find 9 = .ok (.if_icmp .lt 21, 3) := by decide +kernel
theorem dX7_find_12 : decode cX7_find 12 = .ok (.iload_n 3, 1) := by decide +kernel
theorem dX7_find_13 : decode cX7_find 13 = .ok (.bipush 40, 2) := by decide +kernel
theorem dX7_find_15 : decode cX7_find 15 = .ok (.if_icmp .gt 15, 3) := by decide +kernel
theorem dX7_find_18 : decode cX7_find 18 = .ok (.iload 4, 2) := by decide +kernel
theorem dX7_find_20 : decode cX7_find 20 = .ok (.ifCond .lt 10, 3) := by decide +kernel
theorem dX7_find_23 : decode cX7_find 23 = .ok (.iload 4, 2) := by decide +kernel
theorem dX7_find_25 : decode cX7_find 25 = .ok (.bipush 40, 2) := by decide +kernel
theorem dX7_find_27 : decode cX7_find 27 = .ok (.if_icmp .le 6, 3) := by decide +kernel
theorem dX7_find_30 : decode cX7_find 30 = .ok (.bipush (-2), 2) := by decide +kernel
theorem dX7_find_32 : decode cX7_find 32 = .ok (.ireturn, 1) := by decide +kernel
theorem dX7_find_33 : decode cX7_find 33 = .ok (.aload_n 0, 1) := by decide +kernel
theorem dX7_find_34 : decode cX7_find 34 = .ok (.getfield 35, 3) := by decide +kernel
theorem dX7_find_37 : decode cX7_find 37 = .ok (.invokevirtual 195, 3) := by decide +kernel
theorem dX7_find_40 : decode cX7_find 40 = .ok (.ifCond .ne 6, 3) := by decide +kernel
theorem dX7_find_43 : decode cX7_find 43 = .ok (.bipush (-3), 2) := by decide +kernel
theorem dX7_find_45 : decode cX7_find 45 = .ok (.ireturn, 1) := by decide +kernel
theorem dX7_find_46 : decode cX7_find 46 = .ok (.aload_n 0, 1) := by decide +kernel
theorem dX7_find_47 : decode cX7_find 47 = .ok (.getfield 41, 3) := by decide +kernel
theorem dX7_find_50 : decode cX7_find 50 = .ok (.iload_n 1, 1) := by decide +kernel
theorem dX7_find_51 : decode cX7_find 51 = .ok (.aaload, 1) := by decide +kernel
theorem dX7_find_52 : decode cX7_find 52 = .ok (.invokevirtual 214, 3) := by decide +kernel
theorem dX7_find_55 : decode cX7_find 55 = .ok (.ifCond .eq 9, 3) := by decide +kernel
theorem dX7_find_58 : decode cX7_find 58 = .ok (.aload_n 0, 1) := by decide +kernel
theorem dX7_find_59 : decode cX7_find 59 = .ok (.iconst 1, 1) := by decide +kernel
theorem dX7_find_60 : decode cX7_find 60 = .ok (.invokevirtual 208, 3) := by decide +kernel
theorem dX7_find_63 : decode cX7_find 63 = .ok (.ireturn, 1) := by decide +kernel
theorem dX7_find_64 : decode cX7_find 64 = .ok (.aload_n 0, 1) := by decide +kernel
theorem dX7_find_65 : decode cX7_find 65 = .ok (.getfield 41, 3) := by decide +kernel
theorem dX7_find_68 : decode cX7_find 68 = .ok (.iload_n 1, 1) := by decide +kernel
theorem dX7_find_69 : decode cX7_find 69 = .ok (.aaload, 1) := by decide +kernel
theorem dX7_find_70 : decode cX7_find 70 = .ok (.iload_n 2, 1) := by decide +kernel
theorem dX7_find_71 : decode cX7_find 71 = .ok (.iload_n 3, 1) := by decide +kernel
theorem dX7_find_72 : decode cX7_find 72 = .ok (.invokevirtual 235, 3) := by decide +kernel
theorem dX7_find_75 : decode cX7_find 75 = .ok (.ifCond .ne 9, 3) := by decide +kernel
theorem dX7_find_78 : decode cX7_find 78 = .ok (.aload_n 0, 1) := by decide +kernel
theorem dX7_find_79 : decode cX7_find 79 = .ok (.iconst 2, 1) := by decide +kernel
theorem dX7_find_80 : decode cX7_find 80 = .ok (.invokevirtual 208, 3) := by decide +kernel
theorem dX7_find_83 : decode cX7_find 83 = .ok (.ireturn, 1) := by decide +kernel
theorem dX7_find_84 : decode cX7_find 84 = .ok (.aload_n 0, 1) := by decide +kernel
theorem dX7_find_85 : decode cX7_find 85 = .ok (.getfield 35, 3) := by decide +kernel
theorem dX7_find_88 : decode cX7_find 88 = .ok (.aload_n 0, 1) := by decide +kernel
theorem dX7_find_89 : decode cX7_find 89 = .ok (.getfield 41, 3) := by decide +kernel
theorem dX7_find_92 : decode cX7_find 92 = .ok (.iload_n 1, 1) := by decide +kernel
theorem dX7_find_93 : decode cX7_find 93 = .ok (.aaload, 1) := by decide +kernel
theorem dX7_find_94 : decode cX7_find 94 = .ok (.getfield 223, 3) := by decide +kernel
theorem dX7_find_97 : decode cX7_find 97 = .ok (.iload_n 2, 1) := by decide +kernel
theorem dX7_find_98 : decode cX7_find 98 = .ok (.iload_n 3, 1) := by decide +kernel
theorem dX7_find_99 : decode cX7_find 99 = .ok (.iload 4, 2) := by decide +kernel
theorem dX7_find_101 : decode cX7_find 101 = .ok (.invokevirtual 248, 3) := by decide +kernel
theorem dX7_find_104 : decode cX7_find 104 = .ok (.istore 5, 2) := by decide +kernel
theorem dX7_find_106 : decode cX7_find 106 = .ok (.iload 5, 2) := by decide +kernel
theorem dX7_find_108 : decode cX7_find 108 = .ok (.ifCond .le 14, 3) := by decide +kernel
theorem dX7_find_111 : decode cX7_find 111 = .ok (.aload_n 0, 1) := by decide +kernel
theorem dX7_find_112 : decode cX7_find 112 = .ok (.aload_n 0, 1) := by decide +kernel
theorem dX7_find_113 : decode cX7_find 113 = .ok (.getfield 35, 3) := by decide +kernel
theorem dX7_find_116 : decode cX7_find 116 = .ok (.getfield 252, 3) := by decide +kernel
theorem dX7_find_119 : decode cX7_find 119 = .ok (.putfield 60, 3) := by decide +kernel
theorem dX7_find_122 : decode cX7_find 122 = .ok (.iload 5, 2) := by decide +kernel
theorem dX7_find_124 : decode cX7_find 124 = .ok (.ireturn, 1) := by decide +kernel
theorem dX7_found_0 : decode cX7_found 0 = .ok (.aload_n 0, 1) := by decide +kernel
theorem dX7_found_1 : decode cX7_found 1 = .ok (.getfield 60, 3) := by decide +kernel
theorem dX7_found_4 : decode cX7_found 4 = .ok (.ireturn, 1) := by decide +kernel
theorem dX7_twice_0 : decode cX7_twice 0 = .ok (.iload_n 1, 1) := by decide +kernel
theorem dX7_twice_1 : decode cX7_twice 1 = .ok (.invokestatic 202, 3) := by decide +kernel
theorem dX7_twice_4 : decode cX7_twice 4 = .ok (.ifCond .ne 6, 3) := by decide +kernel
theorem dX7_twice_7 : decode cX7_twice 7 = .ok (.bipush (-2), 2) := by decide +kernel
theorem dX7_twice_9 : decode cX7_twice 9 = .ok (.ireturn, 1) := by decide +kernel
theorem dX7_twice_10 : decode cX7_twice 10 = .ok (.aload_n 0, 1) := by decide +kernel
theorem dX7_twice_11 : decode cX7_twice 11 = .ok (.getfield 41, 3) := by decide +kernel
theorem dX7_twice_14 : decode cX7_twice 14 = .ok (.iload_n 1, 1) := by decide +kernel
theorem dX7_twice_15 : decode cX7_twice 15 = .ok (.aaload, 1) := by decide +kernel
theorem dX7_twice_16 : decode cX7_twice 16 = .ok (.astore_n 2, 1) := by decide +kernel
theorem dX7_twice_17 : decode cX7_twice 17 = .ok (.aload_n 2, 1) := by decide +kernel
theorem dX7_twice_18 : decode cX7_twice 18 = .ok (.invokevirtual 214, 3) := by decide +kernel
theorem dX7_twice_21 : decode cX7_twice 21 = .ok (.ifCond .eq 9, 3) := by decide +kernel
theorem dX7_twice_24 : decode cX7_twice 24 = .ok (.aload_n 0, 1) := by decide +kernel
theorem dX7_twice_25 : decode cX7_twice 25 = .ok (.iconst 1, 1) := by decide +kernel
theorem dX7_twice_26 : decode cX7_twice 26 = .ok (.invokevirtual 208, 3) := by decide +kernel
theorem dX7_twice_29 : decode cX7_twice 29 = .ok (.ireturn, 1) := by decide +kernel
theorem dX7_twice_30 : decode cX7_twice 30 = .ok (.aload_n 2, 1) := by decide +kernel
theorem dX7_twice_31 : decode cX7_twice 31 = .ok (.getfield 255, 3) := by decide +kernel
theorem dX7_twice_34 : decode cX7_twice 34 = .ok (.ifCond .eq 10, 3) := by decide +kernel
theorem dX7_twice_37 : decode cX7_twice 37 = .ok (.aload_n 2, 1) := by decide +kernel
theorem dX7_twice_38 : decode cX7_twice 38 = .ok (.invokevirtual 256, 3) := by decide +kernel
theorem dX7_twice_41 : decode cX7_twice 41 = .ok (.ifCond .eq 8, 3) := by decide +kernel
theorem dX7_twice_44 : decode cX7_twice 44 = .ok (.bipush (-3), 2) := by decide +kernel
theorem dX7_twice_46 : decode cX7_twice 46 = .ok (.goto 7, 3) := by decide +kernel
theorem dX7_twice_49 : decode cX7_twice 49 = .ok (.aload_n 2, 1) := by decide +kernel
theorem dX7_twice_50 : decode cX7_twice 50 = .ok (.invokevirtual 259, 3) := by decide +kernel
theorem dX7_twice_53 : decode cX7_twice 53 = .ok (.ireturn, 1) := by decide +kernel
theorem dX7_parts_0 : decode cX7_parts 0 = .ok (.iload_n 1, 1) := by decide +kernel
theorem dX7_parts_1 : decode cX7_parts 1 = .ok (.invokestatic 202, 3) := by decide +kernel
theorem dX7_parts_4 : decode cX7_parts 4 = .ok (.ifCond .ne 6, 3) := by decide +kernel
theorem dX7_parts_7 : decode cX7_parts 7 = .ok (.bipush (-2), 2) := by decide +kernel
theorem dX7_parts_9 : decode cX7_parts 9 = .ok (.ireturn, 1) := by decide +kernel
theorem dX7_parts_10 : decode cX7_parts 10 = .ok (.aload_n 0, 1) := by decide +kernel
theorem dX7_parts_11 : decode cX7_parts 11 = .ok (.getfield 41, 3) := by decide +kernel
theorem dX7_parts_14 : decode cX7_parts 14 = .ok (.iload_n 1, 1) := by decide +kernel
theorem dX7_parts_15 : decode cX7_parts 15 = .ok (.aaload, 1) := by decide +kernel
theorem dX7_parts_16 : decode cX7_parts 16 = .ok (.astore_n 2, 1) := by decide +kernel
theorem dX7_parts_17 : decode cX7_parts 17 = .ok (.aload_n 2, 1) := by decide +kernel
theorem dX7_parts_18 : decode cX7_parts 18 = .ok (.invokevirtual 214, 3) := by decide +kernel
theorem dX7_parts_21 : decode cX7_parts 21 = .ok (.ifCond .eq 9, 3) := by decide +kernel
theorem dX7_parts_24 : decode cX7_parts 24 = .ok (.aload_n 0, 1) := by decide +kernel
theorem dX7_parts_25 : decode cX7_parts 25 = .ok (.iconst 1, 1) := by decide +kernel
theorem dX7_parts_26 : decode cX7_parts 26 = .ok (.invokevirtual 208, 3) := by decide +kernel
theorem dX7_parts_29 : decode cX7_parts 29 = .ok (.ireturn, 1) := by decide +kernel
theorem dX7_parts_30 : decode cX7_parts 30 = .ok (.aload_n 2, 1) := by decide +kernel
theorem dX7_parts_31 : decode cX7_parts 31 = .ok (.invokevirtual 256, 3) := by decide +kernel
theorem dX7_parts_34 : decode cX7_parts 34 = .ok (.ifCond .eq 8, 3) := by decide +kernel
theorem dX7_parts_37 : decode cX7_parts 37 = .ok (.bipush (-3), 2) := by decide +kernel
theorem dX7_parts_39 : decode cX7_parts 39 = .ok (.goto 18, 3) := by decide +kernel
theorem dX7_parts_42 : decode cX7_parts 42 = .ok (.aload_n 0, 1) := by decide +kernel
theorem dX7_parts_43 : decode cX7_parts 43 = .ok (.getfield 49, 3) := by decide +kernel
theorem dX7_parts_46 : decode cX7_parts 46 = .ok (.aload_n 2, 1) := by decide +kernel
theorem dX7_parts_47 : decode cX7_parts 47 = .ok (.getfield 223, 3) := by decide +kernel
theorem dX7_parts_50 : decode cX7_parts 50 = .ok (.aload_n 2, 1) := by decide +kernel
theorem dX7_parts_51 : decode cX7_parts 51 = .ok (.getfield 255, 3) := by decide +kernel
theorem dX7_parts_54 : decode cX7_parts 54 = .ok (.invokevirtual 262, 3) := by decide +kernel
theorem dX7_parts_57 : decode cX7_parts 57 = .ok (.ireturn, 1) := by decide +kernel
theorem dX7_part_0 : decode cX7_part 0 = .ok (.iload_n 1, 1) := by decide +kernel
theorem dX7_part_1 : decode cX7_part 1 = .ok (.ifCond .lt 14, 3) := by decide +kernel
theorem dX7_part_4 : decode cX7_part 4 = .ok (.iload_n 1, 1) := by decide +kernel
theorem dX7_part_5 : decode cX7_part 5 = .ok (.aload_n 0, 1) := by decide +kernel
theorem dX7_part_6 : decode cX7_part 6 = .ok (.getfield 49, 3) := by decide +kernel
theorem dX7_part_9 : decode cX7_part 9 = .ok (.getfield 266, 3) := by decide +kernel
theorem dX7_part_12 : decode cX7_part 12 = .ok (.if_icmp .lt 8, 3) := by decide +kernel
theorem dX7_part_15 : decode cX7_part 15 = .ok (.bipush (-2), 2) := by decide +kernel
theorem dX7_part_17 : decode cX7_part 17 = .ok (.goto 12, 3) := by decide +kernel
theorem dX7_part_20 : decode cX7_part 20 = .ok (.aload_n 0, 1) := by decide +kernel
theorem dX7_part_21 : decode cX7_part 21 = .ok (.getfield 49, 3) := by decide +kernel
theorem dX7_part_24 : decode cX7_part 24 = .ok (.getfield 269, 3) := by decide +kernel
theorem dX7_part_27 : decode cX7_part 27 = .ok (.iload_n 1, 1) := by decide +kernel
theorem dX7_part_28 : decode cX7_part 28 = .ok (.iaload, 1) := by decide +kernel
theorem dX7_part_29 : decode cX7_part 29 = .ok (.ireturn, 1) := by decide +kernel
theorem dX7_recurrence_0 : decode cX7_recurrence 0 = .ok (.iload_n 1, 1) := by decide +kernel
theorem dX7_recurrence_1 : decode cX7_recurrence 1 = .ok (.invokestatic 202, 3) := by decide +kernel
theorem dX7_recurrence_4 : decode cX7_recurrence 4 = .ok (.ifCond .ne 6, 3) := by decide +kernel
theorem dX7_recurrence_7 : decode cX7_recurrence 7 = .ok (.bipush (-2), 2) := by decide +kernel
theorem dX7_recurrence_9 : decode cX7_recurrence 9 = .ok (.ireturn, 1) := by decide +kernel
theorem dX7_recurrence_10 : decode cX7_recurrence 10 = .ok (.aload_n 0, 1) := by decide +kernel
theorem dX7_recurrence_11 : decode cX7_recurrence 11 = .ok (.getfield 41, 3) := by decide +kernel
theorem dX7_recurrence_14 : decode cX7_recurrence 14 = .ok (.iload_n 1, 1) := by decide +kernel
theorem dX7_recurrence_15 : decode cX7_recurrence 15 = .ok (.aaload, 1) := by decide +kernel
theorem dX7_recurrence_16 : decode cX7_recurrence 16 = .ok (.astore_n 2, 1) := by decide +kernel
theorem dX7_recurrence_17 : decode cX7_recurrence 17 = .ok (.aload_n 2, 1) := by decide +kernel
theorem dX7_recurrence_18 : decode cX7_recurrence 18 = .ok (.invokevirtual 214, 3) := by decide +kernel
theorem dX7_recurrence_21 : decode cX7_recurrence 21 = .ok (.ifCond .eq 9, 3) := by decide +kernel
theorem dX7_recurrence_24 : decode cX7_recurrence 24 = .ok (.aload_n 0, 1) := by decide +kernel
theorem dX7_recurrence_25 : decode cX7_recurrence 25 = .ok (.iconst 1, 1) := by decide +kernel
theorem dX7_recurrence_26 : decode cX7_recurrence 26 = .ok (.invokevirtual 208, 3) := by decide +kernel
theorem dX7_recurrence_29 : decode cX7_recurrence 29 = .ok (.ireturn, 1) := by decide +kernel
theorem dX7_recurrence_30 : decode cX7_recurrence 30 = .ok (.aload_n 0, 1) := by decide +kernel
theorem dX7_recurrence_31 : decode cX7_recurrence 31 = .ok (.getfield 10, 3) := by decide +kernel
theorem dX7_recurrence_34 : decode cX7_recurrence 34 = .ok (.getfield 272, 3) := by decide +kernel
theorem dX7_recurrence_37 : decode cX7_recurrence 37 = .ok (.iconst 4, 1) := by decide +kernel
theorem dX7_recurrence_38 : decode cX7_recurrence 38 = .ok (.if_icmp .eq 10, 3) := by decide +kernel
theorem dX7_recurrence_41 : decode cX7_recurrence 41 = .ok (.aload_n 2, 1) := by decide +kernel
theorem dX7_recurrence_42 : decode cX7_recurrence 42 = .ok (.invokevirtual 256, 3) := by decide +kernel
theorem dX7_recurrence_45 : decode cX7_recurrence 45 = .ok (.ifCond .eq 6, 3) := by decide +kernel
theorem dX7_recurrence_48 : decode cX7_recurrence 48 = .ok (.bipush (-3), 2) := by decide +kernel
theorem dX7_recurrence_50 : decode cX7_recurrence 50 = .ok (.ireturn, 1) := by decide +kernel
theorem dX7_recurrence_51 : decode cX7_recurrence 51 = .ok (.aload_n 0, 1) := by decide +kernel
theorem dX7_recurrence_52 : decode cX7_recurrence 52 = .ok (.getfield 56, 3) := by decide +kernel
theorem dX7_recurrence_55 : decode cX7_recurrence 55 = .ok (.aload_n 2, 1) := by decide +kernel
theorem dX7_recurrence_56 : decode cX7_recurrence 56 = .ok (.getfield 223, 3) := by decide +kernel
theorem dX7_recurrence_59 : decode cX7_recurrence 59 = .ok (.aload_n 2, 1) := by decide +kernel
theorem dX7_recurrence_60 : decode cX7_recurrence 60 = .ok (.getfield 255, 3) := by decide +kernel
theorem dX7_recurrence_63 : decode cX7_recurrence 63 = .ok (.aload_n 0, 1) := by decide +kernel
theorem dX7_recurrence_64 : decode cX7_recurrence 64 = .ok (.getfield 10, 3) := by decide +kernel
theorem dX7_recurrence_67 : decode cX7_recurrence 67 = .ok (.getfield 272, 3) := by decide +kernel
theorem dX7_recurrence_70 : decode cX7_recurrence 70 = .ok (.invokevirtual 274, 3) := by decide +kernel
theorem dX7_recurrence_73 : decode cX7_recurrence 73 = .ok (.ireturn, 1) := by decide +kernel
theorem dX7_coefficient_0 : decode cX7_coefficient 0 = .ok (.iload_n 1, 1) := by decide +kernel
theorem dX7_coefficient_1 : decode cX7_coefficient 1 = .ok (.iconst 1, 1) := by decide +kernel
theorem dX7_coefficient_2 : decode cX7_coefficient 2 = .ok (.if_icmp .lt 14, 3) := by decide +kernel
theorem dX7_coefficient_5 : decode cX7_coefficient 5 = .ok (.iload_n 1, 1) := by decide +kernel
theorem dX7_coefficient_6 : decode cX7_coefficient 6 = .ok (.aload_n 0, 1) := by decide +kernel
theorem dX7_coefficient_7 : decode cX7_coefficient 7 = .ok (.getfield 56, 3) := by decide +kernel
theorem dX7_coefficient_10 : decode cX7_coefficient 10 = .ok (.getfield 278, 3) := by decide +kernel
theorem dX7_coefficient_13 : decode cX7_coefficient 13 = .ok (.if_icmp .le 8, 3) := by decide +kernel
theorem dX7_coefficient_16 : decode cX7_coefficient 16 = .ok (.bipush (-2), 2) := by decide +kernel
theorem dX7_coefficient_18 : decode cX7_coefficient 18 = .ok (.goto 11, 3) := by decide +kernel
theorem dX7_coefficient_21 : decode cX7_coefficient 21 = .ok (.aload_n 0, 1) := by decide +kernel
theorem dX7_coefficient_22 : decode cX7_coefficient 22 = .ok (.getfield 56, 3) := by decide +kernel
theorem dX7_coefficient_25 : decode cX7_coefficient 25 = .ok (.iload_n 1, 1) := by decide +kernel
theorem dX7_coefficient_26 : decode cX7_coefficient 26 = .ok (.invokevirtual 279, 3) := by decide +kernel
theorem dX7_coefficient_29 : decode cX7_coefficient 29 = .ok (.ireturn, 1) := by decide +kernel
theorem dX7_count_0 : decode cX7_count 0 = .ok (.iload_n 1, 1) := by decide +kernel
theorem dX7_count_1 : decode cX7_count 1 = .ok (.tableswitch 84 0 5 #[39, 47, 55, 63, 71, 79], 39) := by decide +kernel
theorem dX7_count_40 : decode cX7_count 40 = .ok (.aload_n 0, 1) := by decide +kernel
theorem dX7_count_41 : decode cX7_count 41 = .ok (.getfield 10, 3) := by decide +kernel
theorem dX7_count_44 : decode cX7_count 44 = .ok (.getfield 272, 3) := by decide +kernel
theorem dX7_count_47 : decode cX7_count 47 = .ok (.ireturn, 1) := by decide +kernel
theorem dX7_count_48 : decode cX7_count 48 = .ok (.aload_n 0, 1) := by decide +kernel
theorem dX7_count_49 : decode cX7_count 49 = .ok (.getfield 10, 3) := by decide +kernel
theorem dX7_count_52 : decode cX7_count 52 = .ok (.getfield 114, 3) := by decide +kernel
theorem dX7_count_55 : decode cX7_count 55 = .ok (.ireturn, 1) := by decide +kernel
theorem dX7_count_56 : decode cX7_count 56 = .ok (.aload_n 0, 1) := by decide +kernel
theorem dX7_count_57 : decode cX7_count 57 = .ok (.getfield 10, 3) := by decide +kernel
theorem dX7_count_60 : decode cX7_count 60 = .ok (.getfield 101, 3) := by decide +kernel
theorem dX7_count_63 : decode cX7_count 63 = .ok (.ireturn, 1) := by decide +kernel
theorem dX7_count_64 : decode cX7_count 64 = .ok (.aload_n 0, 1) := by decide +kernel
theorem dX7_count_65 : decode cX7_count 65 = .ok (.getfield 28, 3) := by decide +kernel
theorem dX7_count_68 : decode cX7_count 68 = .ok (.getfield 153, 3) := by decide +kernel
theorem dX7_count_71 : decode cX7_count 71 = .ok (.ireturn, 1) := by decide +kernel
theorem dX7_count_72 : decode cX7_count 72 = .ok (.aload_n 0, 1) := by decide +kernel
theorem dX7_count_73 : decode cX7_count 73 = .ok (.getfield 35, 3) := by decide +kernel
theorem dX7_count_76 : decode cX7_count 76 = .ok (.getfield 282, 3) := by decide +kernel
theorem dX7_count_79 : decode cX7_count 79 = .ok (.ireturn, 1) := by decide +kernel
theorem dX7_count_80 : decode cX7_count 80 = .ok (.aload_n 0, 1) := by decide +kernel
theorem dX7_count_81 : decode cX7_count 81 = .ok (.getfield 64, 3) := by decide +kernel
theorem dX7_count_84 : decode cX7_count 84 = .ok (.ireturn, 1) := by decide +kernel
theorem dX7_count_85 : decode cX7_count 85 = .ok (.bipush (-2), 2) := by decide +kernel
theorem dX7_count_87 : decode cX7_count 87 = .ok (.ireturn, 1) := by decide +kernel
theorem dX7_digest_0 : decode cX7_digest 0 = .ok (.ldc2_w 285, 3) := by decide +kernel
theorem dX7_digest_3 : decode cX7_digest 3 = .ok (.lstore_n 1, 1) := by decide +kernel
theorem dX7_digest_4 : decode cX7_digest 4 = .ok (.iconst 0, 1) := by decide +kernel
theorem dX7_digest_5 : decode cX7_digest 5 = .ok (.istore_n 3, 1) := by decide +kernel
theorem dX7_digest_6 : decode cX7_digest 6 = .ok (.iload_n 3, 1) := by decide +kernel
theorem dX7_digest_7 : decode cX7_digest 7 = .ok (.iconst 5, 1) := by decide +kernel
theorem dX7_digest_8 : decode cX7_digest 8 = .ok (.if_icmp .ge 22, 3) := by decide +kernel
theorem dX7_digest_11 : decode cX7_digest 11 = .ok (.ldc2_w 287, 3) := by decide +kernel
theorem dX7_digest_14 : decode cX7_digest 14 = .ok (.lload_n 1, 1) := by decide +kernel
theorem dX7_digest_15 : decode cX7_digest 15 = .ok (.lmul, 1) := by decide +kernel
theorem dX7_digest_16 : decode cX7_digest 16 = .ok (.aload_n 0, 1) := by decide +kernel
theorem dX7_digest_17 : decode cX7_digest 17 = .ok (.iload_n 3, 1) := by decide +kernel
theorem dX7_digest_18 : decode cX7_digest 18 = .ok (.invokevirtual 289, 3) := by decide +kernel
theorem dX7_digest_21 : decode cX7_digest 21 = .ok (.i2l, 1) := by decide +kernel
theorem dX7_digest_22 : decode cX7_digest 22 = .ok (.ladd, 1) := by decide +kernel
theorem dX7_digest_23 : decode cX7_digest 23 = .ok (.lstore_n 1, 1) := by decide +kernel
theorem dX7_digest_24 : decode cX7_digest 24 = .ok (.iinc 3 1, 3) := by decide +kernel
theorem dX7_digest_27 : decode cX7_digest 27 = .ok (.goto (-21), 3) := by decide +kernel
theorem dX7_digest_30 : decode cX7_digest 30 = .ok (.aload_n 0, 1) := by decide +kernel
theorem dX7_digest_31 : decode cX7_digest 31 = .ok (.getfield 28, 3) := by decide +kernel
theorem dX7_digest_34 : decode cX7_digest 34 = .ok (.invokevirtual 180, 3) := by decide +kernel
theorem dX7_digest_37 : decode cX7_digest 37 = .ok (.astore_n 3, 1) := by decide +kernel
theorem dX7_digest_38 : decode cX7_digest 38 = .ok (.iconst 0, 1) := by decide +kernel
theorem dX7_digest_39 : decode cX7_digest 39 = .ok (.istore 4, 2) := by decide +kernel
theorem dX7_digest_41 : decode cX7_digest 41 = .ok (.iload 4, 2) := by decide +kernel
theorem dX7_digest_43 : decode cX7_digest 43 = .ok (.aload_n 0, 1) := by decide +kernel
theorem dX7_digest_44 : decode cX7_digest 44 = .ok (.getfield 10, 3) := by decide +kernel
theorem dX7_digest_47 : decode cX7_digest 47 = .ok (.getfield 101, 3) := by decide +kernel
theorem dX7_digest_50 : decode cX7_digest 50 = .ok (.if_icmp .ge 21, 3) := by decide +kernel
theorem dX7_digest_53 : decode cX7_digest 53 = .ok (.ldc2_w 287, 3) := by decide +kernel
theorem dX7_digest_56 : decode cX7_digest 56 = .ok (.lload_n 1, 1) := by decide +kernel
theorem dX7_digest_57 : decode cX7_digest 57 = .ok (.lmul, 1) := by decide +kernel
theorem dX7_digest_58 : decode cX7_digest 58 = .ok (.aload_n 3, 1) := by decide +kernel
theorem dX7_digest_59 : decode cX7_digest 59 = .ok (.iload 4, 2) := by decide +kernel
theorem dX7_digest_61 : decode cX7_digest 61 = .ok (.iaload, 1) := by decide +kernel
theorem dX7_digest_62 : decode cX7_digest 62 = .ok (.i2l, 1) := by decide +kernel
theorem dX7_digest_63 : decode cX7_digest 63 = .ok (.ladd, 1) := by decide +kernel
theorem dX7_digest_64 : decode cX7_digest 64 = .ok (.lstore_n 1, 1) := by decide +kernel
theorem dX7_digest_65 : decode cX7_digest 65 = .ok (.iinc 4 1, 3) := by decide +kernel
theorem dX7_digest_68 : decode cX7_digest 68 = .ok (.goto (-27), 3) := by decide +kernel
theorem dX7_digest_71 : decode cX7_digest 71 = .ok (.aload_n 0, 1) := by decide +kernel
theorem dX7_digest_72 : decode cX7_digest 72 = .ok (.getfield 35, 3) := by decide +kernel
theorem dX7_digest_75 : decode cX7_digest 75 = .ok (.invokevirtual 195, 3) := by decide +kernel
theorem dX7_digest_78 : decode cX7_digest 78 = .ok (.ifCond .eq 42, 3) := by decide +kernel
theorem dX7_digest_81 : decode cX7_digest 81 = .ok (.iconst 0, 1) := by decide +kernel
theorem dX7_digest_82 : decode cX7_digest 82 = .ok (.istore 4, 2) := by decide +kernel
theorem dX7_digest_84 : decode cX7_digest 84 = .ok (.iload 4, 2) := by decide +kernel
theorem dX7_digest_86 : decode cX7_digest 86 = .ok (.aload_n 0, 1) := by decide +kernel
theorem dX7_digest_87 : decode cX7_digest 87 = .ok (.getfield 10, 3) := by decide +kernel
theorem dX7_digest_90 : decode cX7_digest 90 = .ok (.getfield 101, 3) := by decide +kernel
theorem dX7_digest_93 : decode cX7_digest 93 = .ok (.if_icmp .ge 27, 3) := by decide +kernel
theorem dX7_digest_96 : decode cX7_digest 96 = .ok (.ldc2_w 287, 3) := by decide +kernel
theorem dX7_digest_99 : decode cX7_digest 99 = .ok (.lload_n 1, 1) := by decide +kernel
theorem dX7_digest_100 : decode cX7_digest 100 = .ok (.lmul, 1) := by decide +kernel
theorem dX7_digest_101 : decode cX7_digest 101 = .ok (.aload_n 0, 1) := by decide +kernel
theorem dX7_digest_102 : decode cX7_digest 102 = .ok (.getfield 35, 3) := by decide +kernel
theorem dX7_digest_105 : decode cX7_digest 105 = .ok (.getfield 191, 3) := by decide +kernel
theorem dX7_digest_108 : decode cX7_digest 108 = .ok (.iload 4, 2) := by decide +kernel
theorem dX7_digest_110 : decode cX7_digest 110 = .ok (.baload, 1) := by decide +kernel
theorem dX7_digest_111 : decode cX7_digest 111 = .ok (.i2l, 1) := by decide +kernel
theorem dX7_digest_112 : decode cX7_digest 112 = .ok (.ladd, 1) := by decide +kernel
theorem dX7_digest_113 : decode cX7_digest 113 = .ok (.lstore_n 1, 1) := by decide +kernel
theorem dX7_digest_114 : decode cX7_digest 114 = .ok (.iinc 4 1, 3) := by decide +kernel
theorem dX7_digest_117 : decode cX7_digest 117 = .ok (.goto (-33), 3) := by decide +kernel
theorem dX7_digest_120 : decode cX7_digest 120 = .ok (.lload_n 1, 1) := by decide +kernel
theorem dX7_digest_121 : decode cX7_digest 121 = .ok (.lreturn, 1) := by decide +kernel
theorem dX7_isTape_0 : decode cX7_isTape 0 = .ok (.iload_n 0, 1) := by decide +kernel
theorem dX7_isTape_1 : decode cX7_isTape 1 = .ok (.ifCond .lt 12, 3) := by decide +kernel
theorem dX7_isTape_4 : decode cX7_isTape 4 = .ok (.iload_n 0, 1) := by decide +kernel
theorem dX7_isTape_5 : decode cX7_isTape 5 = .ok (.iconst 4, 1) := by decide +kernel
theorem dX7_isTape_6 : decode cX7_isTape 6 = .ok (.if_icmp .ge 7, 3) := by decide +kernel
theorem dX7_isTape_9 : decode cX7_isTape 9 = .ok (.iconst 1, 1) := by decide +kernel
theorem dX7_isTape_10 : decode cX7_isTape 10 = .ok (.goto 4, 3) := by decide +kernel
theorem dX7_isTape_13 : decode cX7_isTape 13 = .ok (.iconst 0, 1) := by decide +kernel
theorem dX7_isTape_14 : decode cX7_isTape 14 = .ok (.ireturn, 1) := by decide +kernel
theorem dX7_isForm_0 : decode cX7_isForm 0 = .ok (.iload_n 0, 1) := by decide +kernel
theorem dX7_isForm_1 : decode cX7_isForm 1 = .ok (.ifCond .lt 12, 3) := by decide +kernel
theorem dX7_isForm_4 : decode cX7_isForm 4 = .ok (.iload_n 0, 1) := by decide +kernel
theorem dX7_isForm_5 : decode cX7_isForm 5 = .ok (.iconst 2, 1) := by decide +kernel
theorem dX7_isForm_6 : decode cX7_isForm 6 = .ok (.if_icmp .gt 7, 3) := by decide +kernel
theorem dX7_isForm_9 : decode cX7_isForm 9 = .ok (.iconst 1, 1) := by decide +kernel
theorem dX7_isForm_10 : decode cX7_isForm 10 = .ok (.goto 4, 3) := by decide +kernel
theorem dX7_isForm_13 : decode cX7_isForm 13 = .ok (.iconst 0, 1) := by decide +kernel
theorem dX7_isForm_14 : decode cX7_isForm 14 = .ok (.ireturn, 1) := by decide +kernel
theorem dX7_finding_0 : decode cX7_finding 0 = .ok (.aload_n 0, 1) := by decide +kernel
theorem dX7_finding_1 : decode cX7_finding 1 = .ok (.iload_n 1, 1) := by decide +kernel
theorem dX7_finding_2 : decode cX7_finding 2 = .ok (.putfield 64, 3) := by decide +kernel
theorem dX7_finding_5 : decode cX7_finding 5 = .ok (.bipush (-10), 2) := by decide +kernel
theorem dX7_finding_7 : decode cX7_finding 7 = .ok (.iload_n 1, 1) := by decide +kernel
theorem dX7_finding_8 : decode cX7_finding 8 = .ok (.isub, 1) := by decide +kernel
theorem dX7_finding_9 : decode cX7_finding 9 = .ok (.ireturn, 1) := by decide +kernel
theorem dX7_faultOfItem_0 : decode cX7_faultOfItem 0 = .ok (.aload_n 0, 1) := by decide +kernel
theorem dX7_faultOfItem_1 : decode cX7_faultOfItem 1 = .ok (.invokevirtual 214, 3) := by decide +kernel
theorem dX7_faultOfItem_4 : decode cX7_faultOfItem 4 = .ok (.ifCond .eq 5, 3) := by decide +kernel
theorem dX7_faultOfItem_7 : decode cX7_faultOfItem 7 = .ok (.iconst 1, 1) := by decide +kernel
theorem dX7_faultOfItem_8 : decode cX7_faultOfItem 8 = .ok (.ireturn, 1) := by decide +kernel
theorem dX7_faultOfItem_9 : decode cX7_faultOfItem 9 = .ok (.aload_n 0, 1) := by decide +kernel
theorem dX7_faultOfItem_10 : decode cX7_faultOfItem 10 = .ok (.getfield 232, 3) := by decide +kernel
theorem dX7_faultOfItem_13 : decode cX7_faultOfItem 13 = .ok (.iload_n 1, 1) := by decide +kernel
theorem dX7_faultOfItem_14 : decode cX7_faultOfItem 14 = .ok (.if_icmp .eq 5, 3) := by decide +kernel
theorem dX7_faultOfItem_17 : decode cX7_faultOfItem 17 = .ok (.iconst 3, 1) := by decide +kernel
theorem dX7_faultOfItem_18 : decode cX7_faultOfItem 18 = .ok (.ireturn, 1) := by decide +kernel
theorem dX7_faultOfItem_19 : decode cX7_faultOfItem 19 = .ok (.aload_n 0, 1) := by decide +kernel
theorem dX7_faultOfItem_20 : decode cX7_faultOfItem 20 = .ok (.iload_n 2, 1) := by decide +kernel
theorem dX7_faultOfItem_21 : decode cX7_faultOfItem 21 = .ok (.iconst 1, 1) := by decide +kernel
theorem dX7_faultOfItem_22 : decode cX7_faultOfItem 22 = .ok (.invokevirtual 235, 3) := by decide +kernel
theorem dX7_faultOfItem_25 : decode cX7_faultOfItem 25 = .ok (.ifCond .eq 7, 3) := by decide +kernel
theorem dX7_faultOfItem_28 : decode cX7_faultOfItem 28 = .ok (.iconst 0, 1) := by decide +kernel
theorem dX7_faultOfItem_29 : decode cX7_faultOfItem 29 = .ok (.goto 4, 3) := by decide +kernel
theorem dX7_faultOfItem_32 : decode cX7_faultOfItem 32 = .ok (.iconst 2, 1) := by decide +kernel
theorem dX7_faultOfItem_33 : decode cX7_faultOfItem 33 = .ok (.ireturn, 1) := by decide +kernel
end
section
theorem dX8_init_0 : decode cX8_init 0 = .ok (.aload_n 0, 1) := by decide +kernel
theorem dX8_init_1 : decode cX8_init 1 = .ok (.invokespecial 1, 3) := by decide +kernel
theorem dX8_init_4 : decode cX8_init 4 = .ok (.aload_n 0, 1) := by decide +kernel
theorem dX8_init_5 : decode cX8_init 5 = .ok (.sipush 20000, 3) := by decide +kernel
theorem dX8_init_8 : decode cX8_init 8 = .ok (.newarray .int, 2) := by decide +kernel
theorem dX8_init_10 : decode cX8_init 10 = .ok (.putfield 7, 3) := by decide +kernel
theorem dX8_init_13 : decode cX8_init 13 = .ok (.aload_n 0, 1) := by decide +kernel
theorem dX8_init_14 : decode cX8_init 14 = .ok (.iconst 5, 1) := by decide +kernel
theorem dX8_init_15 : decode cX8_init 15 = .ok (.newarray .int, 2) := by decide +kernel
theorem dX8_init_17 : decode cX8_init 17 = .ok (.putfield 13, 3) := by decide +kernel
theorem dX8_init_20 : decode cX8_init 20 = .ok (.aload_n 0, 1) := by decide +kernel
theorem dX8_init_21 : decode cX8_init 21 = .ok (.iconst 5, 1) := by decide +kernel
theorem dX8_init_22 : decode cX8_init 22 = .ok (.newarray .int, 2) := by decide +kernel
theorem dX8_init_24 : decode cX8_init 24 = .ok (.putfield 16, 3) := by decide +kernel
theorem dX8_init_27 : decode cX8_init 27 = .ok (.aload_n 0, 1) := by decide +kernel
theorem dX8_init_28 : decode cX8_init 28 = .ok (.bipush 14, 2) := by decide +kernel
theorem dX8_init_30 : decode cX8_init 30 = .ok (.newarray .int, 2) := by decide +kernel
theorem dX8_init_32 : decode cX8_init 32 = .ok (.putfield 19, 3) := by decide +kernel
theorem dX8_init_35 : decode cX8_init 35 = .ok (.aload_n 0, 1) := by decide +kernel
theorem dX8_init_36 : decode cX8_init 36 = .ok (.sipush 20000, 3) := by decide +kernel
theorem dX8_init_39 : decode cX8_init 39 = .ok (.newarray .int, 2) := by decide +kernel
theorem dX8_init_41 : decode cX8_init 41 = .ok (.putfield 22, 3) := by decide +kernel
theorem dX8_init_44 : decode cX8_init 44 = .ok (.aload_n 0, 1) := by decide +kernel
theorem dX8_init_45 : decode cX8_init 45 = .ok (.sipush 400, 3) := by decide +kernel
theorem dX8_init_48 : decode cX8_init 48 = .ok (.newarray .int, 2) := by decide +kernel
theorem dX8_init_50 : decode cX8_init 50 = .ok (.putfield 25, 3) := by decide +kernel
theorem dX8_init_53 : decode cX8_init 53 = .ok (.aload_n 0, 1) := by decide +kernel
theorem dX8_init_54 : decode cX8_init 54 = .ok (.sipush 400, 3) := by decide +kernel
theorem dX8_init_57 : decode cX8_init 57 = .ok (.newarray .int, 2) := by decide +kernel
theorem dX8_init_59 : decode cX8_init 59 = .ok (.putfield 28, 3) := by decide +kernel
theorem dX8_init_62 : decode cX8_init 62 = .ok (.aload_n 0, 1) := by decide +kernel
theorem dX8_init_63 : decode cX8_init 63 = .ok (.sipush 20000, 3) := by decide +kernel
theorem dX8_init_66 : decode cX8_init 66 = .ok (.newarray .boolean, 2) := by decide +kernel
theorem dX8_init_68 : decode cX8_init 68 = .ok (.putfield 31, 3) := by decide +kernel
theorem dX8_init_71 : decode cX8_init 71 = .ok (.aload_n 0, 1) := by decide +kernel
theorem dX8_init_72 : decode cX8_init 72 = .ok (.sipush 20000, 3) := by decide +kernel
theorem dX8_init_75 : decode cX8_init 75 = .ok (.newarray .int, 2) := by decide +kernel
theorem dX8_init_77 : decode cX8_init 77 = .ok (.putfield 35, 3) := by decide +kernel
theorem dX8_init_80 : decode cX8_init 80 = .ok (.aload_n 0, 1) := by decide +kernel
theorem dX8_init_81 : decode cX8_init 81 = .ok (.sipush 20000, 3) := by decide +kernel
theorem dX8_init_84 : decode cX8_init 84 = .ok (.newarray .int, 2) := by decide +kernel
theorem dX8_init_86 : decode cX8_init 86 = .ok (.putfield 38, 3) := by decide +kernel
theorem dX8_init_89 : decode cX8_init 89 = .ok (.aload_n 0, 1) := by decide +kernel
theorem dX8_init_90 : decode cX8_init 90 = .ok (.sipush 20000, 3) := by decide +kernel
theorem dX8_init_93 : decode cX8_init 93 = .ok (.newarray .int, 2) := by decide +kernel
theorem dX8_init_95 : decode cX8_init 95 = .ok (.putfield 41, 3) := by decide +kernel
theorem dX8_init_98 : decode cX8_init 98 = .ok (.aload_n 0, 1) := by decide +kernel
theorem dX8_init_99 : decode cX8_init 99 = .ok (.sipush 20000, 3) := by decide +kernel
theorem dX8_init_102 : decode cX8_init 102 = .ok (.newarray .int, 2) := by decide +kernel
theorem dX8_init_104 : decode cX8_init 104 = .ok (.putfield 44, 3) := by decide +kernel
theorem dX8_init_107 : decode cX8_init 107 = .ok (.aload_n 0, 1) := by decide +kernel
theorem dX8_init_108 : decode cX8_init 108 = .ok (.iconst 4, 1) := by decide +kernel
theorem dX8_init_109 : decode cX8_init 109 = .ok (.newarray .int, 2) := by decide +kernel
theorem dX8_init_111 : decode cX8_init 111 = .ok (.putfield 47, 3) := by decide +kernel
theorem dX8_init_114 : decode cX8_init 114 = .ok (.aload_n 0, 1) := by decide +kernel
theorem dX8_init_115 : decode cX8_init 115 = .ok (.iconst 4, 1) := by decide +kernel
theorem dX8_init_116 : decode cX8_init 116 = .ok (.newarray .int, 2) := by decide +kernel
theorem dX8_init_118 : decode cX8_init 118 = .ok (.putfield 50, 3) := by decide +kernel
theorem dX8_init_121 : decode cX8_init 121 = .ok (.aload_n 0, 1) := by decide +kernel
theorem dX8_init_122 : decode cX8_init 122 = .ok (.sipush 800, 3) := by decide +kernel
theorem dX8_init_125 : decode cX8_init 125 = .ok (.newarray .int, 2) := by decide +kernel
theorem dX8_init_127 : decode cX8_init 127 = .ok (.putfield 53, 3) := by decide +kernel
theorem dX8_init_130 : decode cX8_init 130 = .ok (.aload_n 0, 1) := by decide +kernel
theorem dX8_init_131 : decode cX8_init 131 = .ok (.sipush 200, 3) := by decide +kernel
theorem dX8_init_134 : decode cX8_init 134 = .ok (.newarray .int, 2) := by decide +kernel
theorem dX8_init_136 : decode cX8_init 136 = .ok (.putfield 56, 3) := by decide +kernel
theorem dX8_init_139 : decode cX8_init 139 = .ok (.aload_n 0, 1) := by decide +kernel
theorem dX8_init_140 : decode cX8_init 140 = .ok (.sipush 200, 3) := by decide +kernel
theorem dX8_init_143 : decode cX8_init 143 = .ok (.newarray .int, 2) := by decide +kernel
theorem dX8_init_145 : decode cX8_init 145 = .ok (.putfield 59, 3) := by decide +kernel
theorem dX8_init_148 : decode cX8_init 148 = .ok (.aload_n 0, 1) := by decide +kernel
theorem dX8_init_149 : decode cX8_init 149 = .ok (.sipush 201, 3) := by decide +kernel
theorem dX8_init_152 : decode cX8_init 152 = .ok (.newarray .int, 2) := by decide +kernel
theorem dX8_init_154 : decode cX8_init 154 = .ok (.putfield 62, 3) := by decide +kernel
theorem dX8_init_157 : decode cX8_init 157 = .ok (.aload_n 0, 1) := by decide +kernel
theorem dX8_init_158 : decode cX8_init 158 = .ok (.sipush 202, 3) := by decide +kernel
theorem dX8_init_161 : decode cX8_init 161 = .ok (.newarray .int, 2) := by decide +kernel
theorem dX8_init_163 : decode cX8_init 163 = .ok (.putfield 65, 3) := by decide +kernel
theorem dX8_init_166 : decode cX8_init 166 = .ok (.aload_n 0, 1) := by decide +kernel
theorem dX8_init_167 : decode cX8_init 167 = .ok (.sipush 202, 3) := by decide +kernel
theorem dX8_init_170 : decode cX8_init 170 = .ok (.newarray .int, 2) := by decide +kernel
theorem dX8_init_172 : decode cX8_init 172 = .ok (.putfield 68, 3) := by decide +kernel
theorem dX8_init_175 : decode cX8_init 175 = .ok (.aload_n 0, 1) := by decide +kernel
theorem dX8_init_176 : decode cX8_init 176 = .ok (.sipush 202, 3) := by decide +kernel
theorem dX8_init_179 : decode cX8_init 179 = .ok (.newarray .int, 2) := by decide +kernel
theorem dX8_init_181 : decode cX8_init 181 = .ok (.putfield 71, 3) := by decide +kernel
theorem dX8_init_184 : decode cX8_init 184 = .ok (.aload_n 0, 1) := by decide +kernel
theorem dX8_init_185 : decode cX8_init 185 = .ok (.ldc 74, 2) := by decide +kernel
theorem dX8_init_187 : decode cX8_init 187 = .ok (.newarray .int, 2) := by decide +kernel
theorem dX8_init_189 : decode cX8_init 189 = .ok (.putfield 75, 3) := by decide +kernel
theorem dX8_init_192 : decode cX8_init 192 = .ok (.iconst 0, 1) := by decide +kernel
theorem dX8_init_193 : decode cX8_init 193 = .ok (.istore_n 1, 1) := by decide +kernel
theorem dX8_init_194 : decode cX8_init 194 = .ok (.iload_n 1, 1) := by decide +kernel
theorem dX8_init_195 : decode cX8_init 195 = .ok (.iconst 4, 1) := by decide +kernel
theorem dX8_init_196 : decode cX8_init 196 = .ok (.if_icmp .ge 16, 3) := by decide +kernel
theorem dX8_init_199 : decode cX8_init 199 = .ok (.aload_n 0, 1) := by decide +kernel
theorem dX8_init_200 : decode cX8_init 200 = .ok (.getfield 47, 3) := by decide +kernel
theorem dX8_init_203 : decode cX8_init 203 = .ok (.iload_n 1, 1) := by decide +kernel
theorem dX8_init_204 : decode cX8_init 204 = .ok (.iconst (-1), 1) := by decide +kernel
theorem dX8_init_205 : decode cX8_init 205 = .ok (.iastore, 1) := by decide +kernel
theorem dX8_init_206 : decode cX8_init 206 = .ok (.iinc 1 1, 3) := by decide +kernel
theorem dX8_init_209 : decode cX8_init 209 = .ok (.goto (-15), 3) := by decide +kernel
theorem dX8_init_212 : decode cX8_init 212 = .ok (.aload_n 0, 1) := by decide +kernel
theorem dX8_init_213 : decode cX8_init 213 = .ok (.iconst 2, 1) := by decide +kernel
theorem dX8_init_214 : decode cX8_init 214 = .ok (.iconst 3, 1) := by decide +kernel
theorem dX8_init_215 : decode cX8_init 215 = .ok (.invokevirtual 78, 3) := by decide +kernel
theorem dX8_init_218 : decode cX8_init 218 = .ok (.pop, 1) := by decide +kernel
theorem dX8_init_219 : decode cX8_init 219 = .ok (.return_, 1) := by decide +kernel
theorem dX8_in_0 : decode cX8_in 0 = .ok (.lload_n 0, 1) := by decide +kernel
theorem dX8_in_1 : decode cX8_in 1 = .ok (.lload_n 2, 1) := by decide +kernel
theorem dX8_in_2 : decode cX8_in 2 = .ok (.lcmp, 1) := by decide +kernel
theorem dX8_in_3 : decode cX8_in 3 = .ok (.ifCond .lt 14, 3) := by decide +kernel
theorem dX8_in_6 : decode cX8_in 6 = .ok (.lload_n 0, 1) := by decide +kernel
theorem dX8_in_7 : decode cX8_in 7 = .ok (.lload 4, 2) := by decide +kernel
theorem dX8_in_9 : decode cX8_in 9 = .ok (.lcmp, 1) := by decide +kernel
theorem dX8_in_10 : decode cX8_in 10 = .ok (.ifCond .gt 7, 3) := by decide +kernel
theorem dX8_in_13 : decode cX8_in 13 = .ok (.iconst 1, 1) := by decide +kernel
theorem dX8_in_14 : decode cX8_in 14 = .ok (.goto 4, 3) := by decide +kernel
theorem dX8_in_17 : decode cX8_in 17 = .ok (.iconst 0, 1) := by decide +kernel
theorem dX8_in_18 : decode cX8_in 18 = .ok (.ireturn, 1) := by decide +kernel
theorem dX8_wheel_0 : decode cX8_wheel 0 = .ok (.iload_n 1, 1) := by decide +kernel
theorem dX8_wheel_1 : decode cX8_wheel 1 = .ok (.i2l, 1) := by decide +kernel
theorem dX8_wheel_2 : decode cX8_wheel 2 = .ok (.ldc2_w 82, 3) := by decide +kernel
theorem dX8_wheel_5 : decode cX8_wheel 5 = .ok (.ldc2_w 84, 3) := by decide +kernel
theorem dX8_wheel_8 : decode cX8_wheel 8 = .ok (.invokestatic 86, 3) := by decide +kernel
theorem dX8_wheel_11 : decode cX8_wheel 11 = .ok (.ifCond .eq 15, 3) := by decide +kernel
theorem dX8_wheel_14 : decode cX8_wheel 14 = .ok (.iload_n 2, 1) := by decide +kernel
theorem dX8_wheel_15 : decode cX8_wheel 15 = .ok (.i2l, 1) := by decide +kernel
theorem dX8_wheel_16 : decode cX8_wheel 16 = .ok (.lconst 1, 1) := by decide +kernel
theorem dX8_wheel_17 : decode cX8_wheel 17 = .ok (.ldc2_w 90, 3) := by decide +kernel
theorem dX8_wheel_20 : decode cX8_wheel 20 = .ok (.invokestatic 86, 3) := by decide +kernel
theorem dX8_wheel_23 : decode cX8_wheel 23 = .ok (.ifCond .ne 6, 3) := by decide +kernel
theorem dX8_wheel_26 : decode cX8_wheel 26 = .ok (.bipush (-2), 2) := by decide +kernel
theorem dX8_wheel_28 : decode cX8_wheel 28 = .ok (.ireturn, 1) := by decide +kernel
theorem dX8_wheel_29 : decode cX8_wheel 29 = .ok (.iconst 1, 1) := by decide +kernel
theorem dX8_wheel_30 : decode cX8_wheel 30 = .ok (.istore_n 3, 1) := by decide +kernel
theorem dX8_wheel_31 : decode cX8_wheel 31 = .ok (.iconst 0, 1) := by decide +kernel
theorem dX8_wheel_32 : decode cX8_wheel 32 = .ok (.istore 4, 2) := by decide +kernel
theorem dX8_wheel_34 : decode cX8_wheel 34 = .ok (.iload 4, 2) := by decide +kernel
theorem dX8_wheel_36 : decode cX8_wheel 36 = .ok (.iload_n 2, 1) := by decide +kernel
theorem dX8_wheel_37 : decode cX8_wheel 37 = .ok (.if_icmp .ge 24, 3) := by decide +kernel
theorem dX8_wheel_40 : decode cX8_wheel 40 = .ok (.iload_n 3, 1) := by decide +kernel
theorem dX8_wheel_41 : decode cX8_wheel 41 = .ok (.sipush 20000, 3) := by decide +kernel
theorem dX8_wheel_44 : decode cX8_wheel 44 = .ok (.if_icmp .le 7, 3) := by decide +kernel
theorem dX8_wheel_47 : decode cX8_wheel 47 = .ok (.iload_n 3, 1) := by decide +kernel
theorem dX8_wheel_48 : decode cX8_wheel 48 = .ok (.goto 6, 3) := by decide +kernel
theorem dX8_wheel_51 : decode cX8_wheel 51 = .ok (.iload_n 3, 1) := by decide +kernel
theorem dX8_wheel_52 : decode cX8_wheel 52 = .ok (.iload_n 1, 1) := by decide +kernel
theorem dX8_wheel_53 : decode cX8_wheel 53 = .ok (.imul, 1) := by decide +kernel
theorem dX8_wheel_54 : decode cX8_wheel 54 = .ok (.istore_n 3, 1) := by decide +kernel
theorem dX8_wheel_55 : decode cX8_wheel 55 = .ok (.iinc 4 1, 3) := by decide +kernel
theorem dX8_wheel_58 : decode cX8_wheel 58 = .ok (.goto (-24), 3) := by decide +kernel
theorem dX8_wheel_61 : decode cX8_wheel 61 = .ok (.iload_n 3, 1) := by decide +kernel
theorem dX8_wheel_62 : decode cX8_wheel 62 = .ok (.sipush 20000, 3) := by decide +kernel
theorem dX8_wheel_65 : decode cX8_wheel 65 = .ok (.if_icmp .le 6, 3) := by decide +kernel
theorem dX8_wheel_68 : decode cX8_wheel 68 = .ok (.bipush (-2), 2) := by decide +kernel
theorem dX8_wheel_70 : decode cX8_wheel 70 = .ok (.ireturn, 1) := by decide +kernel
theorem dX8_wheel_71 : decode cX8_wheel 71 = .ok (.aload_n 0, 1) := by decide +kernel
theorem dX8_wheel_72 : decode cX8_wheel 72 = .ok (.iload_n 1, 1) := by decide +kernel
theorem dX8_wheel_73 : decode cX8_wheel 73 = .ok (.putfield 92, 3) := by decide +kernel
theorem dX8_wheel_76 : decode cX8_wheel 76 = .ok (.aload_n 0, 1) := by decide +kernel
theorem dX8_wheel_77 : decode cX8_wheel 77 = .ok (.iload_n 2, 1) := by decide +kernel
theorem dX8_wheel_78 : decode cX8_wheel 78 = .ok (.putfield 96, 3) := by decide +kernel
theorem dX8_wheel_81 : decode cX8_wheel 81 = .ok (.aload_n 0, 1) := by decide +kernel
theorem dX8_wheel_82 : decode cX8_wheel 82 = .ok (.iload_n 3, 1) := by decide +kernel
theorem dX8_wheel_83 : decode cX8_wheel 83 = .ok (.putfield 99, 3) := by decide +kernel
theorem dX8_wheel_86 : decode cX8_wheel 86 = .ok (.iconst 0, 1) := by decide +kernel
theorem dX8_wheel_87 : decode cX8_wheel 87 = .ok (.istore 4, 2) := by decide +kernel
theorem dX8_wheel_89 : decode cX8_wheel 89 = .ok (.iload 4, 2) := by decide +kernel
theorem dX8_wheel_91 : decode cX8_wheel 91 = .ok (.aload_n 0, 1) := by decide +kernel
theorem dX8_wheel_92 : decode cX8_wheel 92 = .ok (.getfield 99, 3) := by decide +kernel
theorem dX8_wheel_95 : decode cX8_wheel 95 = .ok (.if_icmp .ge 22, 3) := by decide +kernel
theorem dX8_wheel_98 : decode cX8_wheel 98 = .ok (.aload_n 0, 1) := by decide +kernel
theorem dX8_wheel_99 : decode cX8_wheel 99 = .ok (.getfield 7, 3) := by decide +kernel
theorem dX8_wheel_102 : decode cX8_wheel 102 = .ok (.iload 4, 2) := by decide +kernel
theorem dX8_wheel_104 : decode cX8_wheel 104 = .ok (.aload_n 0, 1) := by decide +kernel
theorem dX8_wheel_105 : decode cX8_wheel 105 = .ok (.iload 4, 2) := by decide +kernel
theorem dX8_wheel_107 : decode cX8_wheel 107 = .ok (.invokevirtual 102, 3) := by decide +kernel
theorem dX8_wheel_110 : decode cX8_wheel 110 = .ok (.iastore, 1) := by decide +kernel
theorem dX8_wheel_111 : decode cX8_wheel 111 = .ok (.iinc 4 1, 3) := by decide +kernel
theorem dX8_wheel_114 : decode cX8_wheel 114 = .ok (.goto (-25), 3) := by decide +kernel
theorem dX8_wheel_117 : decode cX8_wheel 117 = .ok (.iconst 0, 1) := by decide +kernel
theorem dX8_wheel_118 : decode cX8_wheel 118 = .ok (.istore 4, 2) := by decide +kernel
theorem dX8_wheel_120 : decode cX8_wheel 120 = .ok (.iload 4, 2) := by decide +kernel
theorem dX8_wheel_122 : decode cX8_wheel 122 = .ok (.bipush 14, 2) := by decide +kernel
theorem dX8_wheel_124 : decode cX8_wheel 124 = .ok (.if_icmp .ge 26, 3) := by decide +kernel
theorem dX8_wheel_127 : decode cX8_wheel 127 = .ok (.aload_n 0, 1) := by decide +kernel
theorem dX8_wheel_128 : decode cX8_wheel 128 = .ok (.getfield 19, 3) := by decide +kernel
theorem dX8_wheel_131 : decode cX8_wheel 131 = .ok (.iload 4, 2) := by decide +kernel
theorem dX8_wheel_133 : decode cX8_wheel 133 = .ok (.iload 4, 2) := by decide +kernel
theorem dX8_wheel_135 : decode cX8_wheel 135 = .ok (.ifCond .ne 7, 3) := by decide +kernel
theorem dX8_wheel_138 : decode cX8_wheel 138 = .ok (.iconst 1, 1) := by decide +kernel
theorem dX8_wheel_139 : decode cX8_wheel 139 = .ok (.goto 4, 3) := by decide +kernel
theorem dX8_wheel_142 : decode cX8_wheel 142 = .ok (.iconst 0, 1) := by decide +kernel
theorem dX8_wheel_143 : decode cX8_wheel 143 = .ok (.iastore, 1) := by decide +kernel
theorem dX8_wheel_144 : decode cX8_wheel 144 = .ok (.iinc 4 1, 3) := by decide +kernel
theorem dX8_wheel_147 : decode cX8_wheel 147 = .ok (.goto (-27), 3) := by decide +kernel
theorem dX8_wheel_150 : decode cX8_wheel 150 = .ok (.aload_n 0, 1) := by decide +kernel
theorem dX8_wheel_151 : decode cX8_wheel 151 = .ok (.iconst 0, 1) := by decide +kernel
theorem dX8_wheel_152 : decode cX8_wheel 152 = .ok (.putfield 106, 3) := by decide +kernel
theorem dX8_wheel_155 : decode cX8_wheel 155 = .ok (.aload_n 0, 1) := by decide +kernel
theorem dX8_wheel_156 : decode cX8_wheel 156 = .ok (.invokevirtual 109, 3) := by decide +kernel
theorem dX8_wheel_159 : decode cX8_wheel 159 = .ok (.aload_n 0, 1) := by decide +kernel
theorem dX8_wheel_160 : decode cX8_wheel 160 = .ok (.iconst (-1), 1) := by decide +kernel
theorem dX8_wheel_161 : decode cX8_wheel 161 = .ok (.putfield 112, 3) := by decide +kernel
theorem dX8_wheel_164 : decode cX8_wheel 164 = .ok (.aload_n 0, 1) := by decide +kernel
theorem dX8_wheel_165 : decode cX8_wheel 165 = .ok (.iconst (-1), 1) := by decide +kernel
theorem dX8_wheel_166 : decode cX8_wheel 166 = .ok (.putfield 115, 3) := by decide +kernel
theorem dX8_wheel_169 : decode cX8_wheel 169 = .ok (.aload_n 0, 1) := by decide +kernel
theorem dX8_wheel_170 : decode cX8_wheel 170 = .ok (.getfield 99, 3) := by decide +kernel
theorem dX8_wheel_173 : decode cX8_wheel 173 = .ok (.ireturn, 1) := by decide +kernel
theorem dX8_isWord_0 : decode cX8_isWord 0 = .ok (.iload_n 1, 1) := by decide +kernel
theorem dX8_isWord_1 : decode cX8_isWord 1 = .ok (.i2l, 1) := by decide +kernel
theorem dX8_isWord_2 : decode cX8_isWord 2 = .ok (.lconst 0, 1) := by decide +kernel
theorem dX8_isWord_3 : decode cX8_isWord 3 = .ok (.aload_n 0, 1) := by decide +kernel
theorem dX8_isWord_4 : decode cX8_isWord 4 = .ok (.getfield 99, 3) := by decide +kernel
theorem dX8_isWord_7 : decode cX8_isWord 7 = .ok (.iconst 1, 1) := by decide +kernel
theorem dX8_isWord_8 : decode cX8_isWord 8 = .ok (.isub, 1) := by decide +kernel
theorem dX8_isWord_9 : decode cX8_isWord 9 = .ok (.i2l, 1) := by decide +kernel
theorem dX8_isWord_10 : decode cX8_isWord 10 = .ok (.invokestatic 86, 3) := by decide +kernel
theorem dX8_isWord_13 : decode cX8_isWord 13 = .ok (.ireturn, 1) := by decide +kernel
theorem dX8_next_0 : decode cX8_next 0 = .ok (.aload_n 0, 1) := by decide +kernel
theorem dX8_next_1 : decode cX8_next 1 = .ok (.getfield 99, 3) := by decide +kernel
theorem dX8_next_4 : decode cX8_next 4 = .ok (.aload_n 0, 1) := by decide +kernel
theorem dX8_next_5 : decode cX8_next 5 = .ok (.getfield 92, 3) := by decide +kernel
theorem dX8_next_8 : decode cX8_next 8 = .ok (.idiv, 1) := by decide +kernel
theorem dX8_next_9 : decode cX8_next 9 = .ok (.istore_n 2, 1) := by decide +kernel
theorem dX8_next_10 : decode cX8_next 10 = .ok (.iload_n 1, 1) := by decide +kernel
theorem dX8_next_11 : decode cX8_next 11 = .ok (.iload_n 2, 1) := by decide +kernel
theorem dX8_next_12 : decode cX8_next 12 = .ok (.irem, 1) := by decide +kernel
theorem dX8_next_13 : decode cX8_next 13 = .ok (.aload_n 0, 1) := by decide +kernel
theorem dX8_next_14 : decode cX8_next 14 = .ok (.getfield 92, 3) := by decide +kernel
theorem dX8_next_17 : decode cX8_next 17 = .ok (.imul, 1) := by decide +kernel
theorem dX8_next_18 : decode cX8_next 18 = .ok (.iload_n 1, 1) := by decide +kernel
theorem dX8_next_19 : decode cX8_next 19 = .ok (.iload_n 2, 1) := by decide +kernel
theorem dX8_next_20 : decode cX8_next 20 = .ok (.idiv, 1) := by decide +kernel
theorem dX8_next_21 : decode cX8_next 21 = .ok (.iadd, 1) := by decide +kernel
theorem dX8_next_22 : decode cX8_next 22 = .ok (.ireturn, 1) := by decide +kernel
theorem dX8_leastOf_0 : decode cX8_leastOf 0 = .ok (.iload_n 1, 1) := by decide +kernel
theorem dX8_leastOf_1 : decode cX8_leastOf 1 = .ok (.istore_n 2, 1) := by decide +kernel
theorem dX8_leastOf_2 : decode cX8_leastOf 2 = .ok (.aload_n 0, 1) := by decide +kernel
theorem dX8_leastOf_3 : decode cX8_leastOf 3 = .ok (.iload_n 1, 1) := by decide +kernel
theorem dX8_leastOf_4 : decode cX8_leastOf 4 = .ok (.invokevirtual 118, 3) := by decide +kernel
theorem dX8_leastOf_7 : decode cX8_leastOf 7 = .ok (.istore_n 3, 1) := by decide +kernel
theorem dX8_leastOf_8 : decode cX8_leastOf 8 = .ok (.iload_n 3, 1) := by decide +kernel
theorem dX8_leastOf_9 : decode cX8_leastOf 9 = .ok (.iload_n 1, 1) := by decide +kernel
theorem dX8_leastOf_10 : decode cX8_leastOf 10 = .ok (.if_icmp .eq 23, 3) := by decide +kernel
theorem dX8_leastOf_13 : decode cX8_leastOf 13 = .ok (.iload_n 3, 1) := by decide +kernel
theorem dX8_leastOf_14 : decode cX8_leastOf 14 = .ok (.iload_n 2, 1) := by decide +kernel
theorem dX8_leastOf_15 : decode cX8_leastOf 15 = .ok (.if_icmp .ge 7, 3) := by decide +kernel
theorem dX8_leastOf_18 : decode cX8_leastOf 18 = .ok (.iload_n 3, 1) := by decide +kernel
theorem dX8_leastOf_19 : decode cX8_leastOf 19 = .ok (.goto 4, 3) := by decide +kernel
theorem dX8_leastOf_22 : decode cX8_leastOf 22 = .ok (.iload_n 2, 1) := by decide +kernel
theorem dX8_leastOf_23 : decode cX8_leastOf 23 = .ok (.istore_n 2, 1) := by decide +kernel
theorem dX8_leastOf_24 : decode cX8_leastOf 24 = .ok (.aload_n 0, 1) := by decide +kernel
theorem dX8_leastOf_25 : decode cX8_leastOf 25 = .ok (.iload_n 3, 1) := by decide +kernel
theorem dX8_leastOf_26 : decode cX8_leastOf 26 = .ok (.invokevirtual 118, 3) := by decide +kernel
theorem dX8_leastOf_29 : decode cX8_leastOf 29 = .ok (.istore_n 3, 1) := by decide +kernel
theorem dX8_leastOf_30 : decode cX8_leastOf 30 = .ok (.goto (-22), 3) := by decide +kernel
theorem dX8_leastOf_33 : decode cX8_leastOf 33 = .ok (.iload_n 2, 1) := by decide +kernel
theorem dX8_leastOf_34 : decode cX8_leastOf 34 = .ok (.ireturn, 1) := by decide +kernel
theorem dX8_turn_0 : decode cX8_turn 0 = .ok (.aload_n 0, 1) := by decide +kernel
theorem dX8_turn_1 : decode cX8_turn 1 = .ok (.iload_n 1, 1) := by decide +kernel
theorem dX8_turn_2 : decode cX8_turn 2 = .ok (.invokevirtual 121, 3) := by decide +kernel
theorem dX8_turn_5 : decode cX8_turn 5 = .ok (.ifCond .eq 15, 3) := by decide +kernel
theorem dX8_turn_8 : decode cX8_turn 8 = .ok (.iload_n 2, 1) := by decide +kernel
theorem dX8_turn_9 : decode cX8_turn 9 = .ok (.i2l, 1) := by decide +kernel
theorem dX8_turn_10 : decode cX8_turn 10 = .ok (.lconst 0, 1) := by decide +kernel
theorem dX8_turn_11 : decode cX8_turn 11 = .ok (.ldc2_w 125, 3) := by decide +kernel
theorem dX8_turn_14 : decode cX8_turn 14 = .ok (.invokestatic 86, 3) := by decide +kernel
theorem dX8_turn_17 : decode cX8_turn 17 = .ok (.ifCond .ne 6, 3) := by decide +kernel
theorem dX8_turn_20 : decode cX8_turn 20 = .ok (.bipush (-2), 2) := by decide +kernel
theorem dX8_turn_22 : decode cX8_turn 22 = .ok (.ireturn, 1) := by decide +kernel
theorem dX8_turn_23 : decode cX8_turn 23 = .ok (.iload_n 1, 1) := by decide +kernel
theorem dX8_turn_24 : decode cX8_turn 24 = .ok (.istore_n 3, 1) := by decide +kernel
theorem dX8_turn_25 : decode cX8_turn 25 = .ok (.iconst 0, 1) := by decide +kernel
theorem dX8_turn_26 : decode cX8_turn 26 = .ok (.istore 4, 2) := by decide +kernel
theorem dX8_turn_28 : decode cX8_turn 28 = .ok (.iload 4, 2) := by decide +kernel
theorem dX8_turn_30 : decode cX8_turn 30 = .ok (.iload_n 2, 1) := by decide +kernel
theorem dX8_turn_31 : decode cX8_turn 31 = .ok (.aload_n 0, 1) := by decide +kernel
theorem dX8_turn_32 : decode cX8_turn 32 = .ok (.getfield 96, 3) := by decide +kernel
theorem dX8_turn_35 : decode cX8_turn 35 = .ok (.irem, 1) := by decide +kernel
theorem dX8_turn_36 : decode cX8_turn 36 = .ok (.if_icmp .ge 15, 3) := by decide +kernel
theorem dX8_turn_39 : decode cX8_turn 39 = .ok (.aload_n 0, 1) := by decide +kernel
theorem dX8_turn_40 : decode cX8_turn 40 = .ok (.iload_n 3, 1) := by decide +kernel
theorem dX8_turn_41 : decode cX8_turn 41 = .ok (.invokevirtual 118, 3) := by decide +kernel
theorem dX8_turn_44 : decode cX8_turn 44 = .ok (.istore_n 3, 1) := by decide +kernel
theorem dX8_turn_45 : decode cX8_turn 45 = .ok (.iinc 4 1, 3) := by decide +kernel
theorem dX8_turn_48 : decode cX8_turn 48 = .ok (.goto (-20), 3) := by decide +kernel
theorem dX8_turn_51 : decode cX8_turn 51 = .ok (.iload_n 3, 1) := by decide +kernel
theorem dX8_turn_52 : decode cX8_turn 52 = .ok (.ireturn, 1) := by decide +kernel
theorem dX8_least_0 : decode cX8_least 0 = .ok (.aload_n 0, 1) := by decide +kernel
theorem dX8_least_1 : decode cX8_least 1 = .ok (.iload_n 1, 1) := by decide +kernel
theorem dX8_least_2 : decode cX8_least 2 = .ok (.invokevirtual 121, 3) := by decide +kernel
theorem dX8_least_5 : decode cX8_least 5 = .ok (.ifCond .eq 12, 3) := by decide +kernel
theorem dX8_least_8 : decode cX8_least 8 = .ok (.aload_n 0, 1) := by decide +kernel
theorem dX8_least_9 : decode cX8_least 9 = .ok (.getfield 7, 3) := by decide +kernel
theorem dX8_least_12 : decode cX8_least 12 = .ok (.iload_n 1, 1) := by decide +kernel
theorem dX8_least_13 : decode cX8_least 13 = .ok (.iaload, 1) := by decide +kernel
theorem dX8_least_14 : decode cX8_least 14 = .ok (.goto 5, 3) := by decide +kernel
theorem dX8_least_17 : decode cX8_least 17 = .ok (.bipush (-2), 2) := by decide +kernel
theorem dX8_least_19 : decode cX8_least 19 = .ok (.ireturn, 1) := by decide +kernel
theorem dX8_steps_0 : decode cX8_steps 0 = .ok (.aload_n 0, 1) := by decide +kernel
theorem dX8_steps_1 : decode cX8_steps 1 = .ok (.iload_n 1, 1) := by decide +kernel
theorem dX8_steps_2 : decode cX8_steps 2 = .ok (.invokevirtual 121, 3) := by decide +kernel
theorem dX8_steps_5 : decode cX8_steps 5 = .ok (.ifCond .ne 6, 3) := by decide +kernel
theorem dX8_steps_8 : decode cX8_steps 8 = .ok (.bipush (-2), 2) := by decide +kernel
theorem dX8_steps_10 : decode cX8_steps 10 = .ok (.ireturn, 1) := by decide +kernel
theorem dX8_steps_11 : decode cX8_steps 11 = .ok (.iconst 0, 1) := by decide +kernel
theorem dX8_steps_12 : decode cX8_steps 12 = .ok (.istore_n 2, 1) := by decide +kernel
theorem dX8_steps_13 : decode cX8_steps 13 = .ok (.iload_n 1, 1) := by decide +kernel
theorem dX8_steps_14 : decode cX8_steps 14 = .ok (.istore_n 3, 1) := by decide +kernel
theorem dX8_steps_15 : decode cX8_steps 15 = .ok (.iload_n 3, 1) := by decide +kernel
theorem dX8_steps_16 : decode cX8_steps 16 = .ok (.aload_n 0, 1) := by decide +kernel
theorem dX8_steps_17 : decode cX8_steps 17 = .ok (.getfield 7, 3) := by decide +kernel
theorem dX8_steps_20 : decode cX8_steps 20 = .ok (.iload_n 1, 1) := by decide +kernel
theorem dX8_steps_21 : decode cX8_steps 21 = .ok (.iaload, 1) := by decide +kernel
theorem dX8_steps_22 : decode cX8_steps 22 = .ok (.if_icmp .eq 15, 3) := by decide +kernel
theorem dX8_steps_25 : decode cX8_steps 25 = .ok (.aload_n 0, 1) := by decide +kernel
theorem dX8_steps_26 : decode cX8_steps 26 = .ok (.iload_n 3, 1) := by decide +kernel
theorem dX8_steps_27 : decode cX8_steps 27 = .ok (.invokevirtual 118, 3) := by decide +kernel
theorem dX8_steps_30 : decode cX8_steps 30 = .ok (.istore_n 3, 1) := by decide +kernel
theorem dX8_steps_31 : decode cX8_steps 31 = .ok (.iinc 2 1, 3) := by decide +kernel
theorem dX8_steps_34 : decode cX8_steps 34 = .ok (.goto (-19), 3) := by decide +kernel
theorem dX8_steps_37 : decode cX8_steps 37 = .ok (.iload_n 2, 1) := by decide +kernel
theorem dX8_steps_38 : decode cX8_steps 38 = .ok (.ireturn, 1) := by decide +kernel
theorem dX8_sizeOf_0 : decode cX8_sizeOf 0 = .ok (.iconst 1, 1) := by decide +kernel
theorem dX8_sizeOf_1 : decode cX8_sizeOf 1 = .ok (.istore_n 2, 1) := by decide +kernel
theorem dX8_sizeOf_2 : decode cX8_sizeOf 2 = .ok (.aload_n 0, 1) := by decide +kernel
theorem dX8_sizeOf_3 : decode cX8_sizeOf 3 = .ok (.iload_n 1, 1) := by decide +kernel
theorem dX8_sizeOf_4 : decode cX8_sizeOf 4 = .ok (.invokevirtual 118, 3) := by decide +kernel
theorem dX8_sizeOf_7 : decode cX8_sizeOf 7 = .ok (.istore_n 3, 1) := by decide +kernel
theorem dX8_sizeOf_8 : decode cX8_sizeOf 8 = .ok (.iload_n 3, 1) := by decide +kernel
theorem dX8_sizeOf_9 : decode cX8_sizeOf 9 = .ok (.iload_n 1, 1) := by decide +kernel
theorem dX8_sizeOf_10 : decode cX8_sizeOf 10 = .ok (.if_icmp .eq 15, 3) := by decide +kernel
theorem dX8_sizeOf_13 : decode cX8_sizeOf 13 = .ok (.iinc 2 1, 3) := by decide +kernel
theorem dX8_sizeOf_16 : decode cX8_sizeOf 16 = .ok (.aload_n 0, 1) := by decide +kernel
theorem dX8_sizeOf_17 : decode cX8_sizeOf 17 = .ok (.iload_n 3, 1) := by decide +kernel
theorem dX8_sizeOf_18 : decode cX8_sizeOf 18 = .ok (.invokevirtual 118, 3) := by decide +kernel
theorem dX8_sizeOf_21 : decode cX8_sizeOf 21 = .ok (.istore_n 3, 1) := by decide +kernel
theorem dX8_sizeOf_22 : decode cX8_sizeOf 22 = .ok (.goto (-14), 3) := by decide +kernel
theorem dX8_sizeOf_25 : decode cX8_sizeOf 25 = .ok (.iload_n 2, 1) := by decide +kernel
theorem dX8_sizeOf_26 : decode cX8_sizeOf 26 = .ok (.ireturn, 1) := by decide +kernel
theorem dX8_size_0 : decode cX8_size 0 = .ok (.aload_n 0, 1) := by decide +kernel
theorem dX8_size_1 : decode cX8_size 1 = .ok (.iload_n 1, 1) := by decide +kernel
theorem dX8_size_2 : decode cX8_size 2 = .ok (.invokevirtual 121, 3) := by decide +kernel
theorem dX8_size_5 : decode cX8_size 5 = .ok (.ifCond .eq 11, 3) := by decide +kernel
theorem dX8_size_8 : decode cX8_size 8 = .ok (.aload_n 0, 1) := by decide +kernel
theorem dX8_size_9 : decode cX8_size 9 = .ok (.iload_n 1, 1) := by decide +kernel
theorem dX8_size_10 : decode cX8_size 10 = .ok (.invokevirtual 127, 3) := by decide +kernel
theorem dX8_size_13 : decode cX8_size 13 = .ok (.goto 5, 3) := by decide +kernel
theorem dX8_size_16 : decode cX8_size 16 = .ok (.bipush (-2), 2) := by decide +kernel
theorem dX8_size_18 : decode cX8_size 18 = .ok (.ireturn, 1) := by decide +kernel
theorem dX8_even_0 : decode cX8_even 0 = .ok (.aload_n 0, 1) := by decide +kernel
theorem dX8_even_1 : decode cX8_even 1 = .ok (.iload_n 1, 1) := by decide +kernel
theorem dX8_even_2 : decode cX8_even 2 = .ok (.invokevirtual 121, 3) := by decide +kernel
theorem dX8_even_5 : decode cX8_even 5 = .ok (.ifCond .ne 6, 3) := by decide +kernel
theorem dX8_even_8 : decode cX8_even 8 = .ok (.bipush (-2), 2) := by decide +kernel
theorem dX8_even_10 : decode cX8_even 10 = .ok (.ireturn, 1) := by decide +kernel
theorem dX8_even_11 : decode cX8_even 11 = .ok (.aload_n 0, 1) := by decide +kernel
theorem dX8_even_12 : decode cX8_even 12 = .ok (.getfield 7, 3) := by decide +kernel
theorem dX8_even_15 : decode cX8_even 15 = .ok (.iload_n 1, 1) := by decide +kernel
theorem dX8_even_16 : decode cX8_even 16 = .ok (.iaload, 1) := by decide +kernel
theorem dX8_even_17 : decode cX8_even 17 = .ok (.istore_n 2, 1) := by decide +kernel
theorem dX8_even_18 : decode cX8_even 18 = .ok (.iconst 0, 1) := by decide +kernel
theorem dX8_even_19 : decode cX8_even 19 = .ok (.istore_n 3, 1) := by decide +kernel
theorem dX8_even_20 : decode cX8_even 20 = .ok (.iconst 0, 1) := by decide +kernel
theorem dX8_even_21 : decode cX8_even 21 = .ok (.istore 4, 2) := by decide +kernel
theorem dX8_even_23 : decode cX8_even 23 = .ok (.iload 4, 2) := by decide +kernel
theorem dX8_even_25 : decode cX8_even 25 = .ok (.aload_n 0, 1) := by decide +kernel
theorem dX8_even_26 : decode cX8_even 26 = .ok (.getfield 96, 3) := by decide +kernel
theorem dX8_even_29 : decode cX8_even 29 = .ok (.if_icmp .ge 30, 3) := by decide +kernel
theorem dX8_even_32 : decode cX8_even 32 = .ok (.iload_n 3, 1) := by decide +kernel
theorem dX8_even_33 : decode cX8_even 33 = .ok (.aload_n 0, 1) := by decide +kernel
theorem dX8_even_34 : decode cX8_even 34 = .ok (.getfield 92, 3) := by decide +kernel
theorem dX8_even_37 : decode cX8_even 37 = .ok (.imul, 1) := by decide +kernel
theorem dX8_even_38 : decode cX8_even 38 = .ok (.iload_n 2, 1) := by decide +kernel
theorem dX8_even_39 : decode cX8_even 39 = .ok (.aload_n 0, 1) := by decide +kernel
theorem dX8_even_40 : decode cX8_even 40 = .ok (.getfield 92, 3) := by decide +kernel
theorem dX8_even_43 : decode cX8_even 43 = .ok (.irem, 1) := by decide +kernel
theorem dX8_even_44 : decode cX8_even 44 = .ok (.iadd, 1) := by decide +kernel
theorem dX8_even_45 : decode cX8_even 45 = .ok (.istore_n 3, 1) := by decide +kernel
theorem dX8_even_46 : decode cX8_even 46 = .ok (.iload_n 2, 1) := by decide +kernel
theorem dX8_even_47 : decode cX8_even 47 = .ok (.aload_n 0, 1) := by decide +kernel
theorem dX8_even_48 : decode cX8_even 48 = .ok (.getfield 92, 3) := by decide +kernel
theorem dX8_even_51 : decode cX8_even 51 = .ok (.idiv, 1) := by decide +kernel
theorem dX8_even_52 : decode cX8_even 52 = .ok (.istore_n 2, 1) := by decide +kernel
theorem dX8_even_53 : decode cX8_even 53 = .ok (.iinc 4 1, 3) := by decide +kernel
theorem dX8_even_56 : decode cX8_even 56 = .ok (.goto (-33), 3) := by decide +kernel
theorem dX8_even_59 : decode cX8_even 59 = .ok (.aload_n 0, 1) := by decide +kernel
theorem dX8_even_60 : decode cX8_even 60 = .ok (.getfield 7, 3) := by decide +kernel
theorem dX8_even_63 : decode cX8_even 63 = .ok (.iload_n 3, 1) := by decide +kernel
theorem dX8_even_64 : decode cX8_even 64 = .ok (.iaload, 1) := by decide +kernel
theorem dX8_even_65 : decode cX8_even 65 = .ok (.aload_n 0, 1) := by decide +kernel
theorem dX8_even_66 : decode cX8_even 66 = .ok (.getfield 7, 3) := by decide +kernel
theorem dX8_even_69 : decode cX8_even 69 = .ok (.iload_n 1, 1) := by decide +kernel
theorem dX8_even_70 : decode cX8_even 70 = .ok (.iaload, 1) := by decide +kernel
theorem dX8_even_71 : decode cX8_even 71 = .ok (.if_icmp .ne 7, 3) := by decide +kernel
theorem dX8_even_74 : decode cX8_even 74 = .ok (.iconst 1, 1) := by decide +kernel
theorem dX8_even_75 : decode cX8_even 75 = .ok (.goto 4, 3) := by decide +kernel
theorem dX8_even_78 : decode cX8_even 78 = .ok (.iconst 0, 1) := by decide +kernel
theorem dX8_even_79 : decode cX8_even 79 = .ok (.ireturn, 1) := by decide +kernel
theorem dX8_rings_0 : decode cX8_rings 0 = .ok (.iconst 0, 1) := by decide +kernel
theorem dX8_rings_1 : decode cX8_rings 1 = .ok (.istore_n 1, 1) := by decide +kernel
theorem dX8_rings_2 : decode cX8_rings 2 = .ok (.iconst 0, 1) := by decide +kernel
theorem dX8_rings_3 : decode cX8_rings 3 = .ok (.istore_n 2, 1) := by decide +kernel
theorem dX8_rings_4 : decode cX8_rings 4 = .ok (.iload_n 2, 1) := by decide +kernel
theorem dX8_rings_5 : decode cX8_rings 5 = .ok (.aload_n 0, 1) := by decide +kernel
theorem dX8_rings_6 : decode cX8_rings 6 = .ok (.getfield 99, 3) := by decide +kernel
theorem dX8_rings_9 : decode cX8_rings 9 = .ok (.if_icmp .ge 27, 3) := by decide +kernel
theorem dX8_rings_12 : decode cX8_rings 12 = .ok (.iload_n 1, 1) := by decide +kernel
theorem dX8_rings_13 : decode cX8_rings 13 = .ok (.aload_n 0, 1) := by decide +kernel
theorem dX8_rings_14 : decode cX8_rings 14 = .ok (.getfield 7, 3) := by decide +kernel
theorem dX8_rings_17 : decode cX8_rings 17 = .ok (.iload_n 2, 1) := by decide +kernel
theorem dX8_rings_18 : decode cX8_rings 18 = .ok (.iaload, 1) := by decide +kernel
theorem dX8_rings_19 : decode cX8_rings 19 = .ok (.iload_n 2, 1) := by decide +kernel
theorem dX8_rings_20 : decode cX8_rings 20 = .ok (.if_icmp .ne 7, 3) := by decide +kernel
theorem dX8_rings_23 : decode cX8_rings 23 = .ok (.iconst 1, 1) := by decide +kernel
theorem dX8_rings_24 : decode cX8_rings 24 = .ok (.goto 4, 3) := by decide +kernel
theorem dX8_rings_27 : decode cX8_rings 27 = .ok (.iconst 0, 1) := by decide +kernel
theorem dX8_rings_28 : decode cX8_rings 28 = .ok (.iadd, 1) := by decide +kernel
theorem dX8_rings_29 : decode cX8_rings 29 = .ok (.istore_n 1, 1) := by decide +kernel
theorem dX8_rings_30 : decode cX8_rings 30 = .ok (.iinc 2 1, 3) := by decide +kernel
theorem dX8_rings_33 : decode cX8_rings 33 = .ok (.goto (-29), 3) := by decide +kernel
theorem dX8_rings_36 : decode cX8_rings 36 = .ok (.iload_n 1, 1) := by decide +kernel
theorem dX8_rings_37 : decode cX8_rings 37 = .ok (.ireturn, 1) := by decide +kernel
theorem dX8_ringOf_0 : decode cX8_ringOf 0 = .ok (.aload_n 0, 1) := by decide +kernel
theorem dX8_ringOf_1 : decode cX8_ringOf 1 = .ok (.iload_n 1, 1) := by decide +kernel
theorem dX8_ringOf_2 : decode cX8_ringOf 2 = .ok (.invokevirtual 121, 3) := by decide +kernel
theorem dX8_ringOf_5 : decode cX8_ringOf 5 = .ok (.ifCond .ne 6, 3) := by decide +kernel
theorem dX8_ringOf_8 : decode cX8_ringOf 8 = .ok (.bipush (-2), 2) := by decide +kernel
theorem dX8_ringOf_10 : decode cX8_ringOf 10 = .ok (.ireturn, 1) := by decide +kernel
theorem dX8_ringOf_11 : decode cX8_ringOf 11 = .ok (.iconst 0, 1) := by decide +kernel
theorem dX8_ringOf_12 : decode cX8_ringOf 12 = .ok (.istore_n 2, 1) := by decide +kernel
theorem dX8_ringOf_13 : decode cX8_ringOf 13 = .ok (.iconst 0, 1) := by decide +kernel
theorem dX8_ringOf_14 : decode cX8_ringOf 14 = .ok (.istore_n 3, 1) := by decide +kernel
theorem dX8_ringOf_15 : decode cX8_ringOf 15 = .ok (.iload_n 3, 1) := by decide +kernel
theorem dX8_ringOf_16 : decode cX8_ringOf 16 = .ok (.aload_n 0, 1) := by decide +kernel
theorem dX8_ringOf_17 : decode cX8_ringOf 17 = .ok (.getfield 7, 3) := by decide +kernel
theorem dX8_ringOf_20 : decode cX8_ringOf 20 = .ok (.iload_n 1, 1) := by decide +kernel
theorem dX8_ringOf_21 : decode cX8_ringOf 21 = .ok (.iaload, 1) := by decide +kernel
theorem dX8_ringOf_22 : decode cX8_ringOf 22 = .ok (.if_icmp .ge 27, 3) := by decide +kernel
theorem dX8_ringOf_25 : decode cX8_ringOf 25 = .ok (.iload_n 2, 1) := by decide +kernel
theorem dX8_ringOf_26 : decode cX8_ringOf 26 = .ok (.aload_n 0, 1) := by decide +kernel
theorem dX8_ringOf_27 : decode cX8_ringOf 27 = .ok (.getfield 7, 3) := by decide +kernel
theorem dX8_ringOf_30 : decode cX8_ringOf 30 = .ok (.iload_n 3, 1) := by decide +kernel
theorem dX8_ringOf_31 : decode cX8_ringOf 31 = .ok (.iaload, 1) := by decide +kernel
theorem dX8_ringOf_32 : decode cX8_ringOf 32 = .ok (.iload_n 3, 1) := by decide +kernel
theorem dX8_ringOf_33 : decode cX8_ringOf 33 = .ok (.if_icmp .ne 7, 3) := by decide +kernel
theorem dX8_ringOf_36 : decode cX8_ringOf 36 = .ok (.iconst 1, 1) := by decide +kernel
theorem dX8_ringOf_37 : decode cX8_ringOf 37 = .ok (.goto 4, 3) := by decide +kernel
theorem dX8_ringOf_40 : decode cX8_ringOf 40 = .ok (.iconst 0, 1) := by decide +kernel
theorem dX8_ringOf_41 : decode cX8_ringOf 41 = .ok (.iadd, 1) := by decide +kernel
theorem dX8_ringOf_42 : decode cX8_ringOf 42 = .ok (.istore_n 2, 1) := by decide +kernel
theorem dX8_ringOf_43 : decode cX8_ringOf 43 = .ok (.iinc 3 1, 3) := by decide +kernel
theorem dX8_ringOf_46 : decode cX8_ringOf 46 = .ok (.goto (-31), 3) := by decide +kernel
theorem dX8_ringOf_49 : decode cX8_ringOf 49 = .ok (.iload_n 2, 1) := by decide +kernel
theorem dX8_ringOf_50 : decode cX8_ringOf 50 = .ok (.ireturn, 1) := by decide +kernel
theorem dX8_ring_0 : decode cX8_ring 0 = .ok (.iload_n 1, 1) := by decide +kernel
theorem dX8_ring_1 : decode cX8_ring 1 = .ok (.istore_n 2, 1) := by decide +kernel
theorem dX8_ring_2 : decode cX8_ring 2 = .ok (.iconst 0, 1) := by decide +kernel
theorem dX8_ring_3 : decode cX8_ring 3 = .ok (.istore_n 3, 1) := by decide +kernel
theorem dX8_ring_4 : decode cX8_ring 4 = .ok (.iload_n 3, 1) := by decide +kernel
theorem dX8_ring_5 : decode cX8_ring 5 = .ok (.aload_n 0, 1) := by decide +kernel
theorem dX8_ring_6 : decode cX8_ring 6 = .ok (.getfield 99, 3) := by decide +kernel
theorem dX8_ring_9 : decode cX8_ring 9 = .ok (.if_icmp .ge 32, 3) := by decide +kernel
theorem dX8_ring_12 : decode cX8_ring 12 = .ok (.iload_n 1, 1) := by decide +kernel
theorem dX8_ring_13 : decode cX8_ring 13 = .ok (.ifCond .lt 28, 3) := by decide +kernel
theorem dX8_ring_16 : decode cX8_ring 16 = .ok (.aload_n 0, 1) := by decide +kernel
theorem dX8_ring_17 : decode cX8_ring 17 = .ok (.getfield 7, 3) := by decide +kernel
theorem dX8_ring_20 : decode cX8_ring 20 = .ok (.iload_n 3, 1) := by decide +kernel
theorem dX8_ring_21 : decode cX8_ring 21 = .ok (.iaload, 1) := by decide +kernel
theorem dX8_ring_22 : decode cX8_ring 22 = .ok (.iload_n 3, 1) := by decide +kernel
theorem dX8_ring_23 : decode cX8_ring 23 = .ok (.if_icmp .ne 12, 3) := by decide +kernel
theorem dX8_ring_26 : decode cX8_ring 26 = .ok (.iload_n 2, 1) := by decide +kernel
theorem dX8_ring_27 : decode cX8_ring 27 = .ok (.ifCond .ne 5, 3) := by decide +kernel
theorem dX8_ring_30 : decode cX8_ring 30 = .ok (.iload_n 3, 1) := by decide +kernel
theorem dX8_ring_31 : decode cX8_ring 31 = .ok (.ireturn, 1) := by decide +kernel
theorem dX8_ring_32 : decode cX8_ring 32 = .ok (.iinc 2 (-1), 3) := by decide +kernel
theorem dX8_ring_35 : decode cX8_ring 35 = .ok (.iinc 3 1, 3) := by decide +kernel
theorem dX8_ring_38 : decode cX8_ring 38 = .ok (.goto (-34), 3) := by decide +kernel
theorem dX8_ring_41 : decode cX8_ring 41 = .ok (.bipush (-2), 2) := by decide +kernel
theorem dX8_ring_43 : decode cX8_ring 43 = .ok (.ireturn, 1) := by decide +kernel
theorem dX8_below_0 : decode cX8_below 0 = .ok (.aload_n 0, 1) := by decide +kernel
theorem dX8_below_1 : decode cX8_below 1 = .ok (.iload_n 1, 1) := by decide +kernel
theorem dX8_below_2 : decode cX8_below 2 = .ok (.invokevirtual 121, 3) := by decide +kernel
theorem dX8_below_5 : decode cX8_below 5 = .ok (.ifCond .ne 6, 3) := by decide +kernel
theorem dX8_below_8 : decode cX8_below 8 = .ok (.bipush (-2), 2) := by decide +kernel
theorem dX8_below_10 : decode cX8_below 10 = .ok (.ireturn, 1) := by decide +kernel
theorem dX8_below_11 : decode cX8_below 11 = .ok (.iconst 0, 1) := by decide +kernel
theorem dX8_below_12 : decode cX8_below 12 = .ok (.istore_n 2, 1) := by decide +kernel
theorem dX8_below_13 : decode cX8_below 13 = .ok (.iconst 0, 1) := by decide +kernel
theorem dX8_below_14 : decode cX8_below 14 = .ok (.istore_n 3, 1) := by decide +kernel
theorem dX8_below_15 : decode cX8_below 15 = .ok (.iload_n 3, 1) := by decide +kernel
theorem dX8_below_16 : decode cX8_below 16 = .ok (.aload_n 0, 1) := by decide +kernel
theorem dX8_below_17 : decode cX8_below 17 = .ok (.getfield 99, 3) := by decide +kernel
theorem dX8_below_20 : decode cX8_below 20 = .ok (.if_icmp .ge 27, 3) := by decide +kernel
theorem dX8_below_23 : decode cX8_below 23 = .ok (.iload_n 2, 1) := by decide +kernel
theorem dX8_below_24 : decode cX8_below 24 = .ok (.aload_n 0, 1) := by decide +kernel
theorem dX8_below_25 : decode cX8_below 25 = .ok (.getfield 7, 3) := by decide +kernel
theorem dX8_below_28 : decode cX8_below 28 = .ok (.iload_n 3, 1) := by decide +kernel
theorem dX8_below_29 : decode cX8_below 29 = .ok (.iaload, 1) := by decide +kernel
theorem dX8_below_30 : decode cX8_below 30 = .ok (.iload_n 1, 1) := by decide +kernel
theorem dX8_below_31 : decode cX8_below 31 = .ok (.if_icmp .ge 7, 3) := by decide +kernel
theorem dX8_below_34 : decode cX8_below 34 = .ok (.iconst 1, 1) := by decide +kernel
theorem dX8_below_35 : decode cX8_below 35 = .ok (.goto 4, 3) := by decide +kernel
theorem dX8_below_38 : decode cX8_below 38 = .ok (.iconst 0, 1) := by decide +kernel
theorem dX8_below_39 : decode cX8_below 39 = .ok (.iadd, 1) := by decide +kernel
theorem dX8_below_40 : decode cX8_below 40 = .ok (.istore_n 2, 1) := by decide +kernel
theorem dX8_below_41 : decode cX8_below 41 = .ok (.iinc 3 1, 3) := by decide +kernel
theorem dX8_below_44 : decode cX8_below 44 = .ok (.goto (-29), 3) := by decide +kernel
theorem dX8_below_47 : decode cX8_below 47 = .ok (.iload_n 2, 1) := by decide +kernel
theorem dX8_below_48 : decode cX8_below 48 = .ok (.ireturn, 1) := by decide +kernel
theorem dX8_content_0 : decode cX8_content 0 = .ok (.aload_n 0, 1) := by decide +kernel
theorem dX8_content_1 : decode cX8_content 1 = .ok (.getfield 13, 3) := by decide +kernel
theorem dX8_content_4 : decode cX8_content 4 = .ok (.iconst 0, 1) := by decide +kernel
theorem dX8_content_5 : decode cX8_content 5 = .ok (.iload_n 1, 1) := by decide +kernel
theorem dX8_content_6 : decode cX8_content 6 = .ok (.iastore, 1) := by decide +kernel
theorem dX8_content_7 : decode cX8_content 7 = .ok (.aload_n 0, 1) := by decide +kernel
theorem dX8_content_8 : decode cX8_content 8 = .ok (.getfield 13, 3) := by decide +kernel
theorem dX8_content_11 : decode cX8_content 11 = .ok (.iconst 1, 1) := by decide +kernel
theorem dX8_content_12 : decode cX8_content 12 = .ok (.iload_n 2, 1) := by decide +kernel
theorem dX8_content_13 : decode cX8_content 13 = .ok (.iastore, 1) := by decide +kernel
theorem dX8_content_14 : decode cX8_content 14 = .ok (.aload_n 0, 1) := by decide +kernel
theorem dX8_content_15 : decode cX8_content 15 = .ok (.getfield 13, 3) := by decide +kernel
theorem dX8_content_18 : decode cX8_content 18 = .ok (.iconst 2, 1) := by decide +kernel
theorem dX8_content_19 : decode cX8_content 19 = .ok (.iload_n 3, 1) := by decide +kernel
theorem dX8_content_20 : decode cX8_content 20 = .ok (.iastore, 1) := by decide +kernel
theorem dX8_content_21 : decode cX8_content 21 = .ok (.aload_n 0, 1) := by decide +kernel
theorem dX8_content_22 : decode cX8_content 22 = .ok (.getfield 13, 3) := by decide +kernel
theorem dX8_content_25 : decode cX8_content 25 = .ok (.iconst 3, 1) := by decide +kernel
theorem dX8_content_26 : decode cX8_content 26 = .ok (.iload 4, 2) := by decide +kernel
theorem dX8_content_28 : decode cX8_content 28 = .ok (.iastore, 1) := by decide +kernel
theorem dX8_content_29 : decode cX8_content 29 = .ok (.aload_n 0, 1) := by decide +kernel
theorem dX8_content_30 : decode cX8_content 30 = .ok (.getfield 13, 3) := by decide +kernel
theorem dX8_content_33 : decode cX8_content 33 = .ok (.iconst 4, 1) := by decide +kernel
theorem dX8_content_34 : decode cX8_content 34 = .ok (.iload 5, 2) := by decide +kernel
theorem dX8_content_36 : decode cX8_content 36 = .ok (.iastore, 1) := by decide +kernel
theorem dX8_content_37 : decode cX8_content 37 = .ok (.lconst 0, 1) := by decide +kernel
theorem dX8_content_38 : decode cX8_content 38 = .ok (.lstore 6, 2) := by decide +kernel
theorem dX8_content_40 : decode cX8_content 40 = .ok (.iconst 1, 1) := by decide +kernel
theorem dX8_content_41 : decode cX8_content 41 = .ok (.istore 8, 2) := by decide +kernel
theorem dX8_content_43 : decode cX8_content 43 = .ok (.iconst 0, 1) := by decide +kernel
theorem dX8_content_44 : decode cX8_content 44 = .ok (.istore 9, 2) := by decide +kernel
theorem dX8_content_46 : decode cX8_content 46 = .ok (.iload 9, 2) := by decide +kernel
theorem dX8_content_48 : decode cX8_content 48 = .ok (.iconst 5, 1) := by decide +kernel
theorem dX8_content_49 : decode cX8_content 49 = .ok (.if_icmp .ge 63, 3) := by decide +kernel
theorem dX8_content_52 : decode cX8_content 52 = .ok (.iload 8, 2) := by decide +kernel
theorem dX8_content_54 : decode cX8_content 54 = .ok (.ifCond .eq 36, 3) := by decide +kernel
theorem dX8_content_57 : decode cX8_content 57 = .ok (.aload_n 0, 1) := by decide +kernel
theorem dX8_content_58 : decode cX8_content 58 = .ok (.getfield 13, 3) := by decide +kernel
theorem dX8_content_61 : decode cX8_content 61 = .ok (.iload 9, 2) := by decide +kernel
theorem dX8_content_63 : decode cX8_content 63 = .ok (.iaload, 1) := by decide +kernel
theorem dX8_content_64 : decode cX8_content 64 = .ok (.ifCond .lt 26, 3) := by decide +kernel
theorem dX8_content_67 : decode cX8_content 67 = .ok (.iload 9, 2) := by decide +kernel
theorem dX8_content_69 : decode cX8_content 69 = .ok (.aload_n 0, 1) := by decide +kernel
theorem dX8_content_70 : decode cX8_content 70 = .ok (.getfield 92, 3) := by decide +kernel
theorem dX8_content_73 : decode cX8_content 73 = .ok (.if_icmp .lt 13, 3) := by decide +kernel
theorem dX8_content_76 : decode cX8_content 76 = .ok (.aload_n 0, 1) := by decide +kernel
theorem dX8_content_77 : decode cX8_content 77 = .ok (.getfield 13, 3) := by decide +kernel
theorem dX8_content_80 : decode cX8_content 80 = .ok (.iload 9, 2) := by decide +kernel
theorem dX8_content_82 : decode cX8_content 82 = .ok (.iaload, 1) := by decide +kernel
theorem dX8_content_83 : decode cX8_content 83 = .ok (.ifCond .ne 7, 3) := by decide +kernel
theorem dX8_content_86 : decode cX8_content 86 = .ok (.iconst 1, 1) := by decide +kernel
theorem dX8_content_87 : decode cX8_content 87 = .ok (.goto 4, 3) := by decide +kernel
theorem dX8_content_90 : decode cX8_content 90 = .ok (.iconst 0, 1) := by decide +kernel
theorem dX8_content_91 : decode cX8_content 91 = .ok (.istore 8, 2) := by decide +kernel
theorem dX8_content_93 : decode cX8_content 93 = .ok (.lload 6, 2) := by decide +kernel
theorem dX8_content_95 : decode cX8_content 95 = .ok (.aload_n 0, 1) := by decide +kernel
theorem dX8_content_96 : decode cX8_content 96 = .ok (.getfield 13, 3) := by decide +kernel
theorem dX8_content_99 : decode cX8_content 99 = .ok (.iload 9, 2) := by decide +kernel
theorem dX8_content_101 : decode cX8_content 101 = .ok (.iaload, 1) := by decide +kernel
theorem dX8_content_102 : decode cX8_content 102 = .ok (.i2l, 1) := by decide +kernel
theorem dX8_content_103 : decode cX8_content 103 = .ok (.ladd, 1) := by decide +kernel
theorem dX8_content_104 : decode cX8_content 104 = .ok (.lstore 6, 2) := by decide +kernel
theorem dX8_content_106 : decode cX8_content 106 = .ok (.iinc 9 1, 3) := by decide +kernel
theorem dX8_content_109 : decode cX8_content 109 = .ok (.goto (-63), 3) := by decide +kernel
theorem dX8_content_112 : decode cX8_content 112 = .ok (.iload 8, 2) := by decide +kernel
theorem dX8_content_114 : decode cX8_content 114 = .ok (.ifCond .eq 14, 3) := by decide +kernel
theorem dX8_content_117 : decode cX8_content 117 = .ok (.lload 6, 2) := by decide +kernel
theorem dX8_content_119 : decode cX8_content 119 = .ok (.aload_n 0, 1) := by decide +kernel
theorem dX8_content_120 : decode cX8_content 120 = .ok (.getfield 96, 3) := by decide +kernel
theorem dX8_content_123 : decode cX8_content 123 = .ok (.i2l, 1) := by decide +kernel
theorem dX8_content_124 : decode cX8_content 124 = .ok (.lcmp, 1) := by decide +kernel
theorem dX8_content_125 : decode cX8_content 125 = .ok (.ifCond .eq 6, 3) := by decide +kernel
theorem dX8_content_128 : decode cX8_content 128 = .ok (.bipush (-2), 2) := by decide +kernel
theorem dX8_content_130 : decode cX8_content 130 = .ok (.ireturn, 1) := by decide +kernel
theorem dX8_content_131 : decode cX8_content 131 = .ok (.iconst 0, 1) := by decide +kernel
theorem dX8_content_132 : decode cX8_content 132 = .ok (.istore 9, 2) := by decide +kernel
theorem dX8_content_134 : decode cX8_content 134 = .ok (.iconst 0, 1) := by decide +kernel
theorem dX8_content_135 : decode cX8_content 135 = .ok (.istore 10, 2) := by decide +kernel
theorem dX8_content_137 : decode cX8_content 137 = .ok (.iload 10, 2) := by decide +kernel
theorem dX8_content_139 : decode cX8_content 139 = .ok (.aload_n 0, 1) := by decide +kernel
theorem dX8_content_140 : decode cX8_content 140 = .ok (.getfield 99, 3) := by decide +kernel
theorem dX8_content_143 : decode cX8_content 143 = .ok (.if_icmp .ge 40, 3) := by decide +kernel
theorem dX8_content_146 : decode cX8_content 146 = .ok (.iload 9, 2) := by decide +kernel
theorem dX8_content_148 : decode cX8_content 148 = .ok (.aload_n 0, 1) := by decide +kernel
theorem dX8_content_149 : decode cX8_content 149 = .ok (.getfield 7, 3) := by decide +kernel
theorem dX8_content_152 : decode cX8_content 152 = .ok (.iload 10, 2) := by decide +kernel
theorem dX8_content_154 : decode cX8_content 154 = .ok (.iaload, 1) := by decide +kernel
theorem dX8_content_155 : decode cX8_content 155 = .ok (.iload 10, 2) := by decide +kernel
theorem dX8_content_157 : decode cX8_content 157 = .ok (.if_icmp .ne 16, 3) := by decide +kernel
theorem dX8_content_160 : decode cX8_content 160 = .ok (.aload_n 0, 1) := by decide +kernel
theorem dX8_content_161 : decode cX8_content 161 = .ok (.iload 10, 2) := by decide +kernel
theorem dX8_content_163 : decode cX8_content 163 = .ok (.invokevirtual 130, 3) := by decide +kernel
theorem dX8_content_166 : decode cX8_content 166 = .ok (.ifCond .eq 7, 3) := by decide +kernel
theorem dX8_content_169 : decode cX8_content 169 = .ok (.iconst 1, 1) := by decide +kernel
theorem dX8_content_170 : decode cX8_content 170 = .ok (.goto 4, 3) := by decide +kernel
theorem dX8_content_173 : decode cX8_content 173 = .ok (.iconst 0, 1) := by decide +kernel
theorem dX8_content_174 : decode cX8_content 174 = .ok (.iadd, 1) := by decide +kernel
theorem dX8_content_175 : decode cX8_content 175 = .ok (.istore 9, 2) := by decide +kernel
theorem dX8_content_177 : decode cX8_content 177 = .ok (.iinc 10 1, 3) := by decide +kernel
theorem dX8_content_180 : decode cX8_content 180 = .ok (.goto (-43), 3) := by decide +kernel
theorem dX8_content_183 : decode cX8_content 183 = .ok (.iload 9, 2) := by decide +kernel
theorem dX8_content_185 : decode cX8_content 185 = .ok (.ireturn, 1) := by decide +kernel
theorem dX8_hasWanted_0 : decode cX8_hasWanted 0 = .ok (.iconst 0, 1) := by decide +kernel
theorem dX8_hasWanted_1 : decode cX8_hasWanted 1 = .ok (.istore_n 2, 1) := by decide +kernel
theorem dX8_hasWanted_2 : decode cX8_hasWanted 2 = .ok (.iload_n 2, 1) := by decide +kernel
theorem dX8_hasWanted_3 : decode cX8_hasWanted 3 = .ok (.iconst 5, 1) := by decide +kernel
theorem dX8_hasWanted_4 : decode cX8_hasWanted 4 = .ok (.if_icmp .ge 16, 3) := by decide +kernel
theorem dX8_hasWanted_7 : decode cX8_hasWanted 7 = .ok (.aload_n 0, 1) := by decide +kernel
theorem dX8_hasWanted_8 : decode cX8_hasWanted 8 = .ok (.getfield 16, 3) := by decide +kernel
theorem dX8_hasWanted_11 : decode cX8_hasWanted 11 = .ok (.iload_n 2, 1) := by decide +kernel
theorem dX8_hasWanted_12 : decode cX8_hasWanted 12 = .ok (.iconst 0, 1) := by decide +kernel
theorem dX8_hasWanted_13 : decode cX8_hasWanted 13 = .ok (.iastore, 1) := by decide +kernel
theorem dX8_hasWanted_14 : decode cX8_hasWanted 14 = .ok (.iinc 2 1, 3) := by decide +kernel
theorem dX8_hasWanted_17 : decode cX8_hasWanted 17 = .ok (.goto (-15), 3) := by decide +kernel
theorem dX8_hasWanted_20 : decode cX8_hasWanted 20 = .ok (.iload_n 1, 1) := by decide +kernel
theorem dX8_hasWanted_21 : decode cX8_hasWanted 21 = .ok (.istore_n 2, 1) := by decide +kernel
theorem dX8_hasWanted_22 : decode cX8_hasWanted 22 = .ok (.iconst 0, 1) := by decide +kernel
theorem dX8_hasWanted_23 : decode cX8_hasWanted 23 = .ok (.istore_n 3, 1) := by decide +kernel
theorem dX8_hasWanted_24 : decode cX8_hasWanted 24 = .ok (.iload_n 3, 1) := by decide +kernel
theorem dX8_hasWanted_25 : decode cX8_hasWanted 25 = .ok (.aload_n 0, 1) := by decide +kernel
theorem dX8_hasWanted_26 : decode cX8_hasWanted 26 = .ok (.getfield 96, 3) := by decide +kernel
theorem dX8_hasWanted_29 : decode cX8_hasWanted 29 = .ok (.if_icmp .ge 31, 3) := by decide +kernel
theorem dX8_hasWanted_32 : decode cX8_hasWanted 32 = .ok (.aload_n 0, 1) := by decide +kernel
theorem dX8_hasWanted_33 : decode cX8_hasWanted 33 = .ok (.getfield 16, 3) := by decide +kernel
theorem dX8_hasWanted_36 : decode cX8_hasWanted 36 = .ok (.iload_n 2, 1) := by decide +kernel
theorem dX8_hasWanted_37 : decode cX8_hasWanted 37 = .ok (.aload_n 0, 1) := by decide +kernel
theorem dX8_hasWanted_38 : decode cX8_hasWanted 38 = .ok (.getfield 92, 3) := by decide +kernel
theorem dX8_hasWanted_41 : decode cX8_hasWanted 41 = .ok (.irem, 1) := by decide +kernel
theorem dX8_hasWanted_42 : decode cX8_hasWanted 42 = .ok (.dup2, 1) := by decide +kernel
theorem dX8_hasWanted_43 : decode cX8_hasWanted 43 = .ok (.iaload, 1) := by decide +kernel
theorem dX8_hasWanted_44 : decode cX8_hasWanted 44 = .ok (.iconst 1, 1) := by decide +kernel
theorem dX8_hasWanted_45 : decode cX8_hasWanted 45 = .ok (.iadd, 1) := by decide +kernel
theorem dX8_hasWanted_46 : decode cX8_hasWanted 46 = .ok (.iastore, 1) := by decide +kernel
theorem dX8_hasWanted_47 : decode cX8_hasWanted 47 = .ok (.iload_n 2, 1) := by decide +kernel
theorem dX8_hasWanted_48 : decode cX8_hasWanted 48 = .ok (.aload_n 0, 1) := by decide +kernel
theorem dX8_hasWanted_49 : decode cX8_hasWanted 49 = .ok (.getfield 92, 3) := by decide +kernel
theorem dX8_hasWanted_52 : decode cX8_hasWanted 52 = .ok (.idiv, 1) := by decide +kernel
theorem dX8_hasWanted_53 : decode cX8_hasWanted 53 = .ok (.istore_n 2, 1) := by decide +kernel
theorem dX8_hasWanted_54 : decode cX8_hasWanted 54 = .ok (.iinc 3 1, 3) := by decide +kernel
theorem dX8_hasWanted_57 : decode cX8_hasWanted 57 = .ok (.goto (-33), 3) := by decide +kernel
theorem dX8_hasWanted_60 : decode cX8_hasWanted 60 = .ok (.iconst 1, 1) := by decide +kernel
theorem dX8_hasWanted_61 : decode cX8_hasWanted 61 = .ok (.istore_n 3, 1) := by decide +kernel
theorem dX8_hasWanted_62 : decode cX8_hasWanted 62 = .ok (.iconst 0, 1) := by decide +kernel
theorem dX8_hasWanted_63 : decode cX8_hasWanted 63 = .ok (.istore 4, 2) := by decide +kernel
theorem dX8_hasWanted_65 : decode cX8_hasWanted 65 = .ok (.iload 4, 2) := by decide +kernel
theorem dX8_hasWanted_67 : decode cX8_hasWanted 67 = .ok (.iconst 5, 1) := by decide +kernel
theorem dX8_hasWanted_68 : decode cX8_hasWanted 68 = .ok (.if_icmp .ge 36, 3) := by decide +kernel
theorem dX8_hasWanted_71 : decode cX8_hasWanted 71 = .ok (.iload_n 3, 1) := by decide +kernel
theorem dX8_hasWanted_72 : decode cX8_hasWanted 72 = .ok (.ifCond .eq 24, 3) := by decide +kernel
theorem dX8_hasWanted_75 : decode cX8_hasWanted 75 = .ok (.aload_n 0, 1) := by decide +kernel
theorem dX8_hasWanted_76 : decode cX8_hasWanted 76 = .ok (.getfield 16, 3) := by decide +kernel
theorem dX8_hasWanted_79 : decode cX8_hasWanted 79 = .ok (.iload 4, 2) := by decide +kernel
theorem dX8_hasWanted_81 : decode cX8_hasWanted 81 = .ok (.iaload, 1) := by decide +kernel
theorem dX8_hasWanted_82 : decode cX8_hasWanted 82 = .ok (.aload_n 0, 1) := by decide +kernel
theorem dX8_hasWanted_83 : decode cX8_hasWanted 83 = .ok (.getfield 13, 3) := by decide +kernel
theorem dX8_hasWanted_86 : decode cX8_hasWanted 86 = .ok (.iload 4, 2) := by decide +kernel
theorem dX8_hasWanted_88 : decode cX8_hasWanted 88 = .ok (.iaload, 1) := by decide +kernel
theorem dX8_hasWanted_89 : decode cX8_hasWanted 89 = .ok (.if_icmp .ne 7, 3) := by decide +kernel
theorem dX8_hasWanted_92 : decode cX8_hasWanted 92 = .ok (.iconst 1, 1) := by decide +kernel
theorem dX8_hasWanted_93 : decode cX8_hasWanted 93 = .ok (.goto 4, 3) := by decide +kernel
theorem dX8_hasWanted_96 : decode cX8_hasWanted 96 = .ok (.iconst 0, 1) := by decide +kernel
theorem dX8_hasWanted_97 : decode cX8_hasWanted 97 = .ok (.istore_n 3, 1) := by decide +kernel
theorem dX8_hasWanted_98 : decode cX8_hasWanted 98 = .ok (.iinc 4 1, 3) := by decide +kernel
theorem dX8_hasWanted_101 : decode cX8_hasWanted 101 = .ok (.goto (-36), 3) := by decide +kernel
theorem dX8_hasWanted_104 : decode cX8_hasWanted 104 = .ok (.iload_n 3, 1) := by decide +kernel
theorem dX8_hasWanted_105 : decode cX8_hasWanted 105 = .ok (.ireturn, 1) := by decide +kernel
theorem dX8_lead_0 : decode cX8_lead 0 = .ok (.aload_n 0, 1) := by decide +kernel
theorem dX8_lead_1 : decode cX8_lead 1 = .ok (.iconst 0, 1) := by decide +kernel
theorem dX8_lead_2 : decode cX8_lead 2 = .ok (.putfield 133, 3) := by decide +kernel
theorem dX8_lead_5 : decode cX8_lead 5 = .ok (.aload_n 0, 1) := by decide +kernel
theorem dX8_lead_6 : decode cX8_lead 6 = .ok (.getfield 99, 3) := by decide +kernel
theorem dX8_lead_9 : decode cX8_lead 9 = .ok (.aload_n 0, 1) := by decide +kernel
theorem dX8_lead_10 : decode cX8_lead 10 = .ok (.getfield 92, 3) := by decide +kernel
theorem dX8_lead_13 : decode cX8_lead 13 = .ok (.idiv, 1) := by decide +kernel
theorem dX8_lead_14 : decode cX8_lead 14 = .ok (.istore_n 1, 1) := by decide +kernel
theorem dX8_lead_15 : decode cX8_lead 15 = .ok (.iconst 0, 1) := by decide +kernel
theorem dX8_lead_16 : decode cX8_lead 16 = .ok (.istore_n 2, 1) := by decide +kernel
theorem dX8_lead_17 : decode cX8_lead 17 = .ok (.iload_n 2, 1) := by decide +kernel
theorem dX8_lead_18 : decode cX8_lead 18 = .ok (.aload_n 0, 1) := by decide +kernel
theorem dX8_lead_19 : decode cX8_lead 19 = .ok (.getfield 99, 3) := by decide +kernel
theorem dX8_lead_22 : decode cX8_lead 22 = .ok (.if_icmp .ge 84, 3) := by decide +kernel
theorem dX8_lead_25 : decode cX8_lead 25 = .ok (.aload_n 0, 1) := by decide +kernel
theorem dX8_lead_26 : decode cX8_lead 26 = .ok (.getfield 106, 3) := by decide +kernel
theorem dX8_lead_29 : decode cX8_lead 29 = .ok (.istore_n 3, 1) := by decide +kernel
theorem dX8_lead_30 : decode cX8_lead 30 = .ok (.iload_n 2, 1) := by decide +kernel
theorem dX8_lead_31 : decode cX8_lead 31 = .ok (.istore 4, 2) := by decide +kernel
theorem dX8_lead_33 : decode cX8_lead 33 = .ok (.aload_n 0, 1) := by decide +kernel
theorem dX8_lead_34 : decode cX8_lead 34 = .ok (.getfield 96, 3) := by decide +kernel
theorem dX8_lead_37 : decode cX8_lead 37 = .ok (.iconst 1, 1) := by decide +kernel
theorem dX8_lead_38 : decode cX8_lead 38 = .ok (.isub, 1) := by decide +kernel
theorem dX8_lead_39 : decode cX8_lead 39 = .ok (.istore 5, 2) := by decide +kernel
theorem dX8_lead_41 : decode cX8_lead 41 = .ok (.iload 5, 2) := by decide +kernel
theorem dX8_lead_43 : decode cX8_lead 43 = .ok (.ifCond .lt 36, 3) := by decide +kernel
theorem dX8_lead_46 : decode cX8_lead 46 = .ok (.iload_n 3, 1) := by decide +kernel
theorem dX8_lead_47 : decode cX8_lead 47 = .ok (.aload_n 0, 1) := by decide +kernel
theorem dX8_lead_48 : decode cX8_lead 48 = .ok (.getfield 19, 3) := by decide +kernel
theorem dX8_lead_51 : decode cX8_lead 51 = .ok (.iload 5, 2) := by decide +kernel
theorem dX8_lead_53 : decode cX8_lead 53 = .ok (.iaload, 1) := by decide +kernel
theorem dX8_lead_54 : decode cX8_lead 54 = .ok (.iload 4, 2) := by decide +kernel
theorem dX8_lead_56 : decode cX8_lead 56 = .ok (.aload_n 0, 1) := by decide +kernel
theorem dX8_lead_57 : decode cX8_lead 57 = .ok (.getfield 92, 3) := by decide +kernel
theorem dX8_lead_60 : decode cX8_lead 60 = .ok (.irem, 1) := by decide +kernel
theorem dX8_lead_61 : decode cX8_lead 61 = .ok (.imul, 1) := by decide +kernel
theorem dX8_lead_62 : decode cX8_lead 62 = .ok (.iadd, 1) := by decide +kernel
theorem dX8_lead_63 : decode cX8_lead 63 = .ok (.istore_n 3, 1) := by decide +kernel
theorem dX8_lead_64 : decode cX8_lead 64 = .ok (.iload 4, 2) := by decide +kernel
theorem dX8_lead_66 : decode cX8_lead 66 = .ok (.aload_n 0, 1) := by decide +kernel
theorem dX8_lead_67 : decode cX8_lead 67 = .ok (.getfield 92, 3) := by decide +kernel
theorem dX8_lead_70 : decode cX8_lead 70 = .ok (.idiv, 1) := by decide +kernel
theorem dX8_lead_71 : decode cX8_lead 71 = .ok (.istore 4, 2) := by decide +kernel
theorem dX8_lead_73 : decode cX8_lead 73 = .ok (.iinc 5 (-1), 3) := by decide +kernel
theorem dX8_lead_76 : decode cX8_lead 76 = .ok (.goto (-35), 3) := by decide +kernel
theorem dX8_lead_79 : decode cX8_lead 79 = .ok (.aload_n 0, 1) := by decide +kernel
theorem dX8_lead_80 : decode cX8_lead 80 = .ok (.getfield 22, 3) := by decide +kernel
theorem dX8_lead_83 : decode cX8_lead 83 = .ok (.iload_n 2, 1) := by decide +kernel
theorem dX8_lead_84 : decode cX8_lead 84 = .ok (.iload_n 2, 1) := by decide +kernel
theorem dX8_lead_85 : decode cX8_lead 85 = .ok (.iload_n 1, 1) := by decide +kernel
theorem dX8_lead_86 : decode cX8_lead 86 = .ok (.irem, 1) := by decide +kernel
theorem dX8_lead_87 : decode cX8_lead 87 = .ok (.aload_n 0, 1) := by decide +kernel
theorem dX8_lead_88 : decode cX8_lead 88 = .ok (.getfield 92, 3) := by decide +kernel
theorem dX8_lead_91 : decode cX8_lead 91 = .ok (.imul, 1) := by decide +kernel
theorem dX8_lead_92 : decode cX8_lead 92 = .ok (.iload_n 3, 1) := by decide +kernel
theorem dX8_lead_93 : decode cX8_lead 93 = .ok (.aload_n 0, 1) := by decide +kernel
theorem dX8_lead_94 : decode cX8_lead 94 = .ok (.getfield 92, 3) := by decide +kernel
theorem dX8_lead_97 : decode cX8_lead 97 = .ok (.irem, 1) := by decide +kernel
theorem dX8_lead_98 : decode cX8_lead 98 = .ok (.iadd, 1) := by decide +kernel
theorem dX8_lead_99 : decode cX8_lead 99 = .ok (.iastore, 1) := by decide +kernel
theorem dX8_lead_100 : decode cX8_lead 100 = .ok (.iinc 2 1, 3) := by decide +kernel
theorem dX8_lead_103 : decode cX8_lead 103 = .ok (.goto (-86), 3) := by decide +kernel
theorem dX8_lead_106 : decode cX8_lead 106 = .ok (.return_, 1) := by decide +kernel
theorem dX8_factor_0 : decode cX8_factor 0 = .ok (.iload_n 1, 1) := by decide +kernel
theorem dX8_factor_1 : decode cX8_factor 1 = .ok (.i2l, 1) := by decide +kernel
theorem dX8_factor_2 : decode cX8_factor 2 = .ok (.lconst 0, 1) := by decide +kernel
theorem dX8_factor_3 : decode cX8_factor 3 = .ok (.aload_n 0, 1) := by decide +kernel
theorem dX8_factor_4 : decode cX8_factor 4 = .ok (.getfield 96, 3) := by decide +kernel
theorem dX8_factor_7 : decode cX8_factor 7 = .ok (.iconst 1, 1) := by decide +kernel
theorem dX8_factor_8 : decode cX8_factor 8 = .ok (.isub, 1) := by decide +kernel
theorem dX8_factor_9 : decode cX8_factor 9 = .ok (.i2l, 1) := by decide +kernel
theorem dX8_factor_10 : decode cX8_factor 10 = .ok (.invokestatic 86, 3) := by decide +kernel
theorem dX8_factor_13 : decode cX8_factor 13 = .ok (.ifCond .eq 19, 3) := by decide +kernel
theorem dX8_factor_16 : decode cX8_factor 16 = .ok (.iload_n 2, 1) := by decide +kernel
theorem dX8_factor_17 : decode cX8_factor 17 = .ok (.i2l, 1) := by decide +kernel
theorem dX8_factor_18 : decode cX8_factor 18 = .ok (.lconst 0, 1) := by decide +kernel
theorem dX8_factor_19 : decode cX8_factor 19 = .ok (.aload_n 0, 1) := by decide +kernel
theorem dX8_factor_20 : decode cX8_factor 20 = .ok (.getfield 92, 3) := by decide +kernel
theorem dX8_factor_23 : decode cX8_factor 23 = .ok (.iconst 1, 1) := by decide +kernel
theorem dX8_factor_24 : decode cX8_factor 24 = .ok (.isub, 1) := by decide +kernel
theorem dX8_factor_25 : decode cX8_factor 25 = .ok (.i2l, 1) := by decide +kernel
theorem dX8_factor_26 : decode cX8_factor 26 = .ok (.invokestatic 86, 3) := by decide +kernel
theorem dX8_factor_29 : decode cX8_factor 29 = .ok (.ifCond .ne 6, 3) := by decide +kernel
theorem dX8_factor_32 : decode cX8_factor 32 = .ok (.bipush (-2), 2) := by decide +kernel
theorem dX8_factor_34 : decode cX8_factor 34 = .ok (.ireturn, 1) := by decide +kernel
theorem dX8_factor_35 : decode cX8_factor 35 = .ok (.aload_n 0, 1) := by decide +kernel
theorem dX8_factor_36 : decode cX8_factor 36 = .ok (.getfield 19, 3) := by decide +kernel
theorem dX8_factor_39 : decode cX8_factor 39 = .ok (.iload_n 1, 1) := by decide +kernel
theorem dX8_factor_40 : decode cX8_factor 40 = .ok (.iaload, 1) := by decide +kernel
theorem dX8_factor_41 : decode cX8_factor 41 = .ok (.istore_n 3, 1) := by decide +kernel
theorem dX8_factor_42 : decode cX8_factor 42 = .ok (.aload_n 0, 1) := by decide +kernel
theorem dX8_factor_43 : decode cX8_factor 43 = .ok (.getfield 19, 3) := by decide +kernel
theorem dX8_factor_46 : decode cX8_factor 46 = .ok (.iload_n 1, 1) := by decide +kernel
theorem dX8_factor_47 : decode cX8_factor 47 = .ok (.iload_n 2, 1) := by decide +kernel
theorem dX8_factor_48 : decode cX8_factor 48 = .ok (.iastore, 1) := by decide +kernel
theorem dX8_factor_49 : decode cX8_factor 49 = .ok (.aload_n 0, 1) := by decide +kernel
theorem dX8_factor_50 : decode cX8_factor 50 = .ok (.invokevirtual 109, 3) := by decide +kernel
theorem dX8_factor_53 : decode cX8_factor 53 = .ok (.iload_n 3, 1) := by decide +kernel
theorem dX8_factor_54 : decode cX8_factor 54 = .ok (.ireturn, 1) := by decide +kernel
theorem dX8_sum_0 : decode cX8_sum 0 = .ok (.iload_n 1, 1) := by decide +kernel
theorem dX8_sum_1 : decode cX8_sum 1 = .ok (.i2l, 1) := by decide +kernel
theorem dX8_sum_2 : decode cX8_sum 2 = .ok (.lconst 0, 1) := by decide +kernel
theorem dX8_sum_3 : decode cX8_sum 3 = .ok (.aload_n 0, 1) := by decide +kernel
theorem dX8_sum_4 : decode cX8_sum 4 = .ok (.getfield 92, 3) := by decide +kernel
theorem dX8_sum_7 : decode cX8_sum 7 = .ok (.iconst 1, 1) := by decide +kernel
theorem dX8_sum_8 : decode cX8_sum 8 = .ok (.isub, 1) := by decide +kernel
theorem dX8_sum_9 : decode cX8_sum 9 = .ok (.i2l, 1) := by decide +kernel
theorem dX8_sum_10 : decode cX8_sum 10 = .ok (.invokestatic 86, 3) := by decide +kernel
theorem dX8_sum_13 : decode cX8_sum 13 = .ok (.ifCond .ne 6, 3) := by decide +kernel
theorem dX8_sum_16 : decode cX8_sum 16 = .ok (.bipush (-2), 2) := by decide +kernel
theorem dX8_sum_18 : decode cX8_sum 18 = .ok (.ireturn, 1) := by decide +kernel
theorem dX8_sum_19 : decode cX8_sum 19 = .ok (.aload_n 0, 1) := by decide +kernel
theorem dX8_sum_20 : decode cX8_sum 20 = .ok (.getfield 106, 3) := by decide +kernel
theorem dX8_sum_23 : decode cX8_sum 23 = .ok (.istore_n 2, 1) := by decide +kernel
theorem dX8_sum_24 : decode cX8_sum 24 = .ok (.aload_n 0, 1) := by decide +kernel
theorem dX8_sum_25 : decode cX8_sum 25 = .ok (.iload_n 1, 1) := by decide +kernel
theorem dX8_sum_26 : decode cX8_sum 26 = .ok (.putfield 106, 3) := by decide +kernel
theorem dX8_sum_29 : decode cX8_sum 29 = .ok (.aload_n 0, 1) := by decide +kernel
theorem dX8_sum_30 : decode cX8_sum 30 = .ok (.invokevirtual 109, 3) := by decide +kernel
theorem dX8_sum_33 : decode cX8_sum 33 = .ok (.iload_n 2, 1) := by decide +kernel
theorem dX8_sum_34 : decode cX8_sum 34 = .ok (.ireturn, 1) := by decide +kernel
theorem dX8_go_0 : decode cX8_go 0 = .ok (.aload_n 0, 1) := by decide +kernel
theorem dX8_go_1 : decode cX8_go 1 = .ok (.iload_n 1, 1) := by decide +kernel
theorem dX8_go_2 : decode cX8_go 2 = .ok (.invokevirtual 121, 3) := by decide +kernel
theorem dX8_go_5 : decode cX8_go 5 = .ok (.ifCond .eq 12, 3) := by decide +kernel
theorem dX8_go_8 : decode cX8_go 8 = .ok (.aload_n 0, 1) := by decide +kernel
theorem dX8_go_9 : decode cX8_go 9 = .ok (.getfield 22, 3) := by decide +kernel
theorem dX8_go_12 : decode cX8_go 12 = .ok (.iload_n 1, 1) := by decide +kernel
theorem dX8_go_13 : decode cX8_go 13 = .ok (.iaload, 1) := by decide +kernel
theorem dX8_go_14 : decode cX8_go 14 = .ok (.goto 5, 3) := by decide +kernel
theorem dX8_go_17 : decode cX8_go 17 = .ok (.bipush (-2), 2) := by decide +kernel
theorem dX8_go_19 : decode cX8_go 19 = .ok (.ireturn, 1) := by decide +kernel
theorem dX8_isRight_0 : decode cX8_isRight 0 = .ok (.iconst 0, 1) := by decide +kernel
theorem dX8_isRight_1 : decode cX8_isRight 1 = .ok (.istore_n 1, 1) := by decide +kernel
theorem dX8_isRight_2 : decode cX8_isRight 2 = .ok (.iload_n 1, 1) := by decide +kernel
theorem dX8_isRight_3 : decode cX8_isRight 3 = .ok (.aload_n 0, 1) := by decide +kernel
theorem dX8_isRight_4 : decode cX8_isRight 4 = .ok (.getfield 99, 3) := by decide +kernel
theorem dX8_isRight_7 : decode cX8_isRight 7 = .ok (.if_icmp .ge 16, 3) := by decide +kernel
theorem dX8_isRight_10 : decode cX8_isRight 10 = .ok (.aload_n 0, 1) := by decide +kernel
theorem dX8_isRight_11 : decode cX8_isRight 11 = .ok (.getfield 31, 3) := by decide +kernel
theorem dX8_isRight_14 : decode cX8_isRight 14 = .ok (.iload_n 1, 1) := by decide +kernel
theorem dX8_isRight_15 : decode cX8_isRight 15 = .ok (.iconst 0, 1) := by decide +kernel
theorem dX8_isRight_16 : decode cX8_isRight 16 = .ok (.bastore, 1) := by decide +kernel
theorem dX8_isRight_17 : decode cX8_isRight 17 = .ok (.iinc 1 1, 3) := by decide +kernel
theorem dX8_isRight_20 : decode cX8_isRight 20 = .ok (.goto (-18), 3) := by decide +kernel
theorem dX8_isRight_23 : decode cX8_isRight 23 = .ok (.iconst 1, 1) := by decide +kernel
theorem dX8_isRight_24 : decode cX8_isRight 24 = .ok (.istore_n 1, 1) := by decide +kernel
theorem dX8_isRight_25 : decode cX8_isRight 25 = .ok (.iconst 0, 1) := by decide +kernel
theorem dX8_isRight_26 : decode cX8_isRight 26 = .ok (.istore_n 2, 1) := by decide +kernel
theorem dX8_isRight_27 : decode cX8_isRight 27 = .ok (.iload_n 2, 1) := by decide +kernel
theorem dX8_isRight_28 : decode cX8_isRight 28 = .ok (.aload_n 0, 1) := by decide +kernel
theorem dX8_isRight_29 : decode cX8_isRight 29 = .ok (.getfield 99, 3) := by decide +kernel
theorem dX8_isRight_32 : decode cX8_isRight 32 = .ok (.if_icmp .ge 45, 3) := by decide +kernel
theorem dX8_isRight_35 : decode cX8_isRight 35 = .ok (.iload_n 1, 1) := by decide +kernel
theorem dX8_isRight_36 : decode cX8_isRight 36 = .ok (.ifCond .eq 21, 3) := by decide +kernel
theorem dX8_isRight_39 : decode cX8_isRight 39 = .ok (.aload_n 0, 1) := by decide +kernel
theorem dX8_isRight_40 : decode cX8_isRight 40 = .ok (.getfield 31, 3) := by decide +kernel
theorem dX8_isRight_43 : decode cX8_isRight 43 = .ok (.aload_n 0, 1) := by decide +kernel
theorem dX8_isRight_44 : decode cX8_isRight 44 = .ok (.getfield 22, 3) := by decide +kernel
theorem dX8_isRight_47 : decode cX8_isRight 47 = .ok (.iload_n 2, 1) := by decide +kernel
theorem dX8_isRight_48 : decode cX8_isRight 48 = .ok (.iaload, 1) := by decide +kernel
theorem dX8_isRight_49 : decode cX8_isRight 49 = .ok (.baload, 1) := by decide +kernel
theorem dX8_isRight_50 : decode cX8_isRight 50 = .ok (.ifCond .ne 7, 3) := by decide +kernel
theorem dX8_isRight_53 : decode cX8_isRight 53 = .ok (.iconst 1, 1) := by decide +kernel
theorem dX8_isRight_54 : decode cX8_isRight 54 = .ok (.goto 4, 3) := by decide +kernel
theorem dX8_isRight_57 : decode cX8_isRight 57 = .ok (.iconst 0, 1) := by decide +kernel
theorem dX8_isRight_58 : decode cX8_isRight 58 = .ok (.istore_n 1, 1) := by decide +kernel
theorem dX8_isRight_59 : decode cX8_isRight 59 = .ok (.aload_n 0, 1) := by decide +kernel
theorem dX8_isRight_60 : decode cX8_isRight 60 = .ok (.getfield 31, 3) := by decide +kernel
theorem dX8_isRight_63 : decode cX8_isRight 63 = .ok (.aload_n 0, 1) := by decide +kernel
theorem dX8_isRight_64 : decode cX8_isRight 64 = .ok (.getfield 22, 3) := by decide +kernel
theorem dX8_isRight_67 : decode cX8_isRight 67 = .ok (.iload_n 2, 1) := by decide +kernel
theorem dX8_isRight_68 : decode cX8_isRight 68 = .ok (.iaload, 1) := by decide +kernel
theorem dX8_isRight_69 : decode cX8_isRight 69 = .ok (.iconst 1, 1) := by decide +kernel
theorem dX8_isRight_70 : decode cX8_isRight 70 = .ok (.bastore, 1) := by decide +kernel
theorem dX8_isRight_71 : decode cX8_isRight 71 = .ok (.iinc 2 1, 3) := by decide +kernel
theorem dX8_isRight_74 : decode cX8_isRight 74 = .ok (.goto (-47), 3) := by decide +kernel
theorem dX8_isRight_77 : decode cX8_isRight 77 = .ok (.iload_n 1, 1) := by decide +kernel
theorem dX8_isRight_78 : decode cX8_isRight 78 = .ok (.ireturn, 1) := by decide +kernel
theorem dX8_right_0 : decode cX8_right 0 = .ok (.aload_n 0, 1) := by decide +kernel
theorem dX8_right_1 : decode cX8_right 1 = .ok (.invokevirtual 136, 3) := by decide +kernel
theorem dX8_right_4 : decode cX8_right 4 = .ok (.ifCond .eq 7, 3) := by decide +kernel
theorem dX8_right_7 : decode cX8_right 7 = .ok (.iconst 1, 1) := by decide +kernel
theorem dX8_right_8 : decode cX8_right 8 = .ok (.goto 4, 3) := by decide +kernel
theorem dX8_right_11 : decode cX8_right 11 = .ok (.iconst 0, 1) := by decide +kernel
theorem dX8_right_12 : decode cX8_right 12 = .ok (.ireturn, 1) := by decide +kernel
theorem dX8_findCycles_0 : decode cX8_findCycles 0 = .ok (.aload_n 0, 1) := by decide +kernel
theorem dX8_findCycles_1 : decode cX8_findCycles 1 = .ok (.iconst 0, 1) := by decide +kernel
theorem dX8_findCycles_2 : decode cX8_findCycles 2 = .ok (.putfield 140, 3) := by decide +kernel
theorem dX8_findCycles_5 : decode cX8_findCycles 5 = .ok (.iconst 0, 1) := by decide +kernel
theorem dX8_findCycles_6 : decode cX8_findCycles 6 = .ok (.istore_n 1, 1) := by decide +kernel
theorem dX8_findCycles_7 : decode cX8_findCycles 7 = .ok (.iload_n 1, 1) := by decide +kernel
theorem dX8_findCycles_8 : decode cX8_findCycles 8 = .ok (.aload_n 0, 1) := by decide +kernel
theorem dX8_findCycles_9 : decode cX8_findCycles 9 = .ok (.getfield 99, 3) := by decide +kernel
theorem dX8_findCycles_12 : decode cX8_findCycles 12 = .ok (.if_icmp .ge 16, 3) := by decide +kernel
theorem dX8_findCycles_15 : decode cX8_findCycles 15 = .ok (.aload_n 0, 1) := by decide +kernel
theorem dX8_findCycles_16 : decode cX8_findCycles 16 = .ok (.getfield 35, 3) := by decide +kernel
theorem dX8_findCycles_19 : decode cX8_findCycles 19 = .ok (.iload_n 1, 1) := by decide +kernel
theorem dX8_findCycles_20 : decode cX8_findCycles 20 = .ok (.iconst (-1), 1) := by decide +kernel
theorem dX8_findCycles_21 : decode cX8_findCycles 21 = .ok (.iastore, 1) := by decide +kernel
theorem dX8_findCycles_22 : decode cX8_findCycles 22 = .ok (.iinc 1 1, 3) := by decide +kernel
theorem dX8_findCycles_25 : decode cX8_findCycles 25 = .ok (.goto (-18), 3) := by decide +kernel
theorem dX8_findCycles_28 : decode cX8_findCycles 28 = .ok (.iconst 0, 1) := by decide +kernel
theorem dX8_findCycles_29 : decode cX8_findCycles 29 = .ok (.istore_n 1, 1) := by decide +kernel
theorem dX8_findCycles_30 : decode cX8_findCycles 30 = .ok (.iload_n 1, 1) := by decide +kernel
theorem dX8_findCycles_31 : decode cX8_findCycles 31 = .ok (.aload_n 0, 1) := by decide +kernel
theorem dX8_findCycles_32 : decode cX8_findCycles 32 = .ok (.getfield 99, 3) := by decide +kernel
theorem dX8_findCycles_35 : decode cX8_findCycles 35 = .ok (.if_icmp .ge 61, 3) := by decide +kernel
theorem dX8_findCycles_38 : decode cX8_findCycles 38 = .ok (.aload_n 0, 1) := by decide +kernel
theorem dX8_findCycles_39 : decode cX8_findCycles 39 = .ok (.getfield 35, 3) := by decide +kernel
theorem dX8_findCycles_42 : decode cX8_findCycles 42 = .ok (.iload_n 1, 1) := by decide +kernel
theorem dX8_findCycles_43 : decode cX8_findCycles 43 = .ok (.iaload, 1) := by decide +kernel
theorem dX8_findCycles_44 : decode cX8_findCycles 44 = .ok (.iconst (-1), 1) := by decide +kernel
theorem dX8_findCycles_45 : decode cX8_findCycles 45 = .ok (.if_icmp .ne 45, 3) := by decide +kernel
theorem dX8_findCycles_48 : decode cX8_findCycles 48 = .ok (.iload_n 1, 1) := by decide +kernel
theorem dX8_findCycles_49 : decode cX8_findCycles 49 = .ok (.istore_n 2, 1) := by decide +kernel
theorem dX8_findCycles_50 : decode cX8_findCycles 50 = .ok (.aload_n 0, 1) := by decide +kernel
theorem dX8_findCycles_51 : decode cX8_findCycles 51 = .ok (.getfield 35, 3) := by decide +kernel
theorem dX8_findCycles_54 : decode cX8_findCycles 54 = .ok (.iload_n 2, 1) := by decide +kernel
theorem dX8_findCycles_55 : decode cX8_findCycles 55 = .ok (.iaload, 1) := by decide +kernel
theorem dX8_findCycles_56 : decode cX8_findCycles 56 = .ok (.iconst (-1), 1) := by decide +kernel
theorem dX8_findCycles_57 : decode cX8_findCycles 57 = .ok (.if_icmp .ne 23, 3) := by decide +kernel
theorem dX8_findCycles_60 : decode cX8_findCycles 60 = .ok (.aload_n 0, 1) := by decide +kernel
theorem dX8_findCycles_61 : decode cX8_findCycles 61 = .ok (.getfield 35, 3) := by decide +kernel
theorem dX8_findCycles_64 : decode cX8_findCycles 64 = .ok (.iload_n 2, 1) := by decide +kernel
theorem dX8_findCycles_65 : decode cX8_findCycles 65 = .ok (.aload_n 0, 1) := by decide +kernel
theorem dX8_findCycles_66 : decode cX8_findCycles 66 = .ok (.getfield 140, 3) := by decide +kernel
theorem dX8_findCycles_69 : decode cX8_findCycles 69 = .ok (.iastore, 1) := by decide +kernel
theorem dX8_findCycles_70 : decode cX8_findCycles 70 = .ok (.aload_n 0, 1) := by decide +kernel
theorem dX8_findCycles_71 : decode cX8_findCycles 71 = .ok (.getfield 22, 3) := by decide +kernel
theorem dX8_findCycles_74 : decode cX8_findCycles 74 = .ok (.iload_n 2, 1) := by decide +kernel
theorem dX8_findCycles_75 : decode cX8_findCycles 75 = .ok (.iaload, 1) := by decide +kernel
theorem dX8_findCycles_76 : decode cX8_findCycles 76 = .ok (.istore_n 2, 1) := by decide +kernel
theorem dX8_findCycles_77 : decode cX8_findCycles 77 = .ok (.goto (-27), 3) := by decide +kernel
theorem dX8_findCycles_80 : decode cX8_findCycles 80 = .ok (.aload_n 0, 1) := by decide +kernel
theorem dX8_findCycles_81 : decode cX8_findCycles 81 = .ok (.dup, 1) := by decide +kernel
theorem dX8_findCycles_82 : decode cX8_findCycles 82 = .ok (.getfield 140, 3) := by decide +kernel
theorem dX8_findCycles_85 : decode cX8_findCycles 85 = .ok (.iconst 1, 1) := by decide +kernel
theorem dX8_findCycles_86 : decode cX8_findCycles 86 = .ok (.iadd, 1) := by decide +kernel
theorem dX8_findCycles_87 : decode cX8_findCycles 87 = .ok (.putfield 140, 3) := by decide +kernel
theorem dX8_findCycles_90 : decode cX8_findCycles 90 = .ok (.iinc 1 1, 3) := by decide +kernel
theorem dX8_findCycles_93 : decode cX8_findCycles 93 = .ok (.goto (-63), 3) := by decide +kernel
theorem dX8_findCycles_96 : decode cX8_findCycles 96 = .ok (.return_, 1) := by decide +kernel
theorem dX8_swap_0 : decode cX8_swap 0 = .ok (.aload_n 0, 1) := by decide +kernel
theorem dX8_swap_1 : decode cX8_swap 1 = .ok (.getfield 22, 3) := by decide +kernel
theorem dX8_swap_4 : decode cX8_swap 4 = .ok (.iload_n 1, 1) := by decide +kernel
theorem dX8_swap_5 : decode cX8_swap 5 = .ok (.iaload, 1) := by decide +kernel
theorem dX8_swap_6 : decode cX8_swap 6 = .ok (.istore_n 3, 1) := by decide +kernel
theorem dX8_swap_7 : decode cX8_swap 7 = .ok (.aload_n 0, 1) := by decide +kernel
theorem dX8_swap_8 : decode cX8_swap 8 = .ok (.getfield 22, 3) := by decide +kernel
theorem dX8_swap_11 : decode cX8_swap 11 = .ok (.iload_n 1, 1) := by decide +kernel
theorem dX8_swap_12 : decode cX8_swap 12 = .ok (.aload_n 0, 1) := by decide +kernel
theorem dX8_swap_13 : decode cX8_swap 13 = .ok (.getfield 22, 3) := by decide +kernel
theorem dX8_swap_16 : decode cX8_swap 16 = .ok (.iload_n 2, 1) := by decide +kernel
theorem dX8_swap_17 : decode cX8_swap 17 = .ok (.iaload, 1) := by decide +kernel
theorem dX8_swap_18 : decode cX8_swap 18 = .ok (.iastore, 1) := by decide +kernel
theorem dX8_swap_19 : decode cX8_swap 19 = .ok (.aload_n 0, 1) := by decide +kernel
theorem dX8_swap_20 : decode cX8_swap 20 = .ok (.getfield 22, 3) := by decide +kernel
theorem dX8_swap_23 : decode cX8_swap 23 = .ok (.iload_n 2, 1) := by decide +kernel
theorem dX8_swap_24 : decode cX8_swap 24 = .ok (.iload_n 3, 1) := by decide +kernel
theorem dX8_swap_25 : decode cX8_swap 25 = .ok (.iastore, 1) := by decide +kernel
theorem dX8_swap_26 : decode cX8_swap 26 = .ok (.return_, 1) := by decide +kernel
theorem dX8_exchange_0 : decode cX8_exchange 0 = .ok (.aload_n 0, 1) := by decide +kernel
theorem dX8_exchange_1 : decode cX8_exchange 1 = .ok (.iload_n 1, 1) := by decide +kernel
theorem dX8_exchange_2 : decode cX8_exchange 2 = .ok (.invokevirtual 121, 3) := by decide +kernel
theorem dX8_exchange_5 : decode cX8_exchange 5 = .ok (.ifCond .eq 41, 3) := by decide +kernel
theorem dX8_exchange_8 : decode cX8_exchange 8 = .ok (.aload_n 0, 1) := by decide +kernel
theorem dX8_exchange_9 : decode cX8_exchange 9 = .ok (.iload_n 2, 1) := by decide +kernel
theorem dX8_exchange_10 : decode cX8_exchange 10 = .ok (.invokevirtual 121, 3) := by decide +kernel
theorem dX8_exchange_13 : decode cX8_exchange 13 = .ok (.ifCond .eq 33, 3) := by decide +kernel
theorem dX8_exchange_16 : decode cX8_exchange 16 = .ok (.iload_n 1, 1) := by decide +kernel
theorem dX8_exchange_17 : decode cX8_exchange 17 = .ok (.iload_n 2, 1) := by decide +kernel
theorem dX8_exchange_18 : decode cX8_exchange 18 = .ok (.if_icmp .eq 28, 3) := by decide +kernel
theorem dX8_exchange_21 : decode cX8_exchange 21 = .ok (.iload_n 1, 1) := by decide +kernel
theorem dX8_exchange_22 : decode cX8_exchange 22 = .ok (.aload_n 0, 1) := by decide +kernel
theorem dX8_exchange_23 : decode cX8_exchange 23 = .ok (.getfield 99, 3) := by decide +kernel
theorem dX8_exchange_26 : decode cX8_exchange 26 = .ok (.aload_n 0, 1) := by decide +kernel
theorem dX8_exchange_27 : decode cX8_exchange 27 = .ok (.getfield 92, 3) := by decide +kernel
theorem dX8_exchange_30 : decode cX8_exchange 30 = .ok (.idiv, 1) := by decide +kernel
theorem dX8_exchange_31 : decode cX8_exchange 31 = .ok (.irem, 1) := by decide +kernel
theorem dX8_exchange_32 : decode cX8_exchange 32 = .ok (.iload_n 2, 1) := by decide +kernel
theorem dX8_exchange_33 : decode cX8_exchange 33 = .ok (.aload_n 0, 1) := by decide +kernel
theorem dX8_exchange_34 : decode cX8_exchange 34 = .ok (.getfield 99, 3) := by decide +kernel
theorem dX8_exchange_37 : decode cX8_exchange 37 = .ok (.aload_n 0, 1) := by decide +kernel
theorem dX8_exchange_38 : decode cX8_exchange 38 = .ok (.getfield 92, 3) := by decide +kernel
theorem dX8_exchange_41 : decode cX8_exchange 41 = .ok (.idiv, 1) := by decide +kernel
theorem dX8_exchange_42 : decode cX8_exchange 42 = .ok (.irem, 1) := by decide +kernel
theorem dX8_exchange_43 : decode cX8_exchange 43 = .ok (.if_icmp .eq 6, 3) := by decide +kernel
theorem dX8_exchange_46 : decode cX8_exchange 46 = .ok (.bipush (-2), 2) := by decide +kernel
theorem dX8_exchange_48 : decode cX8_exchange 48 = .ok (.ireturn, 1) := by decide +kernel
theorem dX8_exchange_49 : decode cX8_exchange 49 = .ok (.aload_n 0, 1) := by decide +kernel
theorem dX8_exchange_50 : decode cX8_exchange 50 = .ok (.invokevirtual 136, 3) := by decide +kernel
theorem dX8_exchange_53 : decode cX8_exchange 53 = .ok (.ifCond .ne 6, 3) := by decide +kernel
theorem dX8_exchange_56 : decode cX8_exchange 56 = .ok (.bipush (-3), 2) := by decide +kernel
theorem dX8_exchange_58 : decode cX8_exchange 58 = .ok (.ireturn, 1) := by decide +kernel
theorem dX8_exchange_59 : decode cX8_exchange 59 = .ok (.aload_n 0, 1) := by decide +kernel
theorem dX8_exchange_60 : decode cX8_exchange 60 = .ok (.getfield 133, 3) := by decide +kernel
theorem dX8_exchange_63 : decode cX8_exchange 63 = .ok (.sipush 400, 3) := by decide +kernel
theorem dX8_exchange_66 : decode cX8_exchange 66 = .ok (.if_icmp .ne 6, 3) := by decide +kernel
theorem dX8_exchange_69 : decode cX8_exchange 69 = .ok (.bipush (-4), 2) := by decide +kernel
theorem dX8_exchange_71 : decode cX8_exchange 71 = .ok (.ireturn, 1) := by decide +kernel
theorem dX8_exchange_72 : decode cX8_exchange 72 = .ok (.aload_n 0, 1) := by decide +kernel
theorem dX8_exchange_73 : decode cX8_exchange 73 = .ok (.iload_n 1, 1) := by decide +kernel
theorem dX8_exchange_74 : decode cX8_exchange 74 = .ok (.iload_n 2, 1) := by decide +kernel
theorem dX8_exchange_75 : decode cX8_exchange 75 = .ok (.invokevirtual 143, 3) := by decide +kernel
theorem dX8_exchange_78 : decode cX8_exchange 78 = .ok (.aload_n 0, 1) := by decide +kernel
theorem dX8_exchange_79 : decode cX8_exchange 79 = .ok (.getfield 25, 3) := by decide +kernel
theorem dX8_exchange_82 : decode cX8_exchange 82 = .ok (.aload_n 0, 1) := by decide +kernel
theorem dX8_exchange_83 : decode cX8_exchange 83 = .ok (.getfield 133, 3) := by decide +kernel
theorem dX8_exchange_86 : decode cX8_exchange 86 = .ok (.iload_n 1, 1) := by decide +kernel
theorem dX8_exchange_87 : decode cX8_exchange 87 = .ok (.iastore, 1) := by decide +kernel
theorem dX8_exchange_88 : decode cX8_exchange 88 = .ok (.aload_n 0, 1) := by decide +kernel
theorem dX8_exchange_89 : decode cX8_exchange 89 = .ok (.getfield 28, 3) := by decide +kernel
theorem dX8_exchange_92 : decode cX8_exchange 92 = .ok (.aload_n 0, 1) := by decide +kernel
theorem dX8_exchange_93 : decode cX8_exchange 93 = .ok (.getfield 133, 3) := by decide +kernel
theorem dX8_exchange_96 : decode cX8_exchange 96 = .ok (.iload_n 2, 1) := by decide +kernel
theorem dX8_exchange_97 : decode cX8_exchange 97 = .ok (.iastore, 1) := by decide +kernel
theorem dX8_exchange_98 : decode cX8_exchange 98 = .ok (.aload_n 0, 1) := by decide +kernel
theorem dX8_exchange_99 : decode cX8_exchange 99 = .ok (.dup, 1) := by decide +kernel
theorem dX8_exchange_100 : decode cX8_exchange 100 = .ok (.getfield 133, 3) := by decide +kernel
theorem dX8_exchange_103 : decode cX8_exchange 103 = .ok (.iconst 1, 1) := by decide +kernel
theorem dX8_exchange_104 : decode cX8_exchange 104 = .ok (.iadd, 1) := by decide +kernel
theorem dX8_exchange_105 : decode cX8_exchange 105 = .ok (.putfield 133, 3) := by decide +kernel
theorem dX8_exchange_108 : decode cX8_exchange 108 = .ok (.aload_n 0, 1) := by decide +kernel
theorem dX8_exchange_109 : decode cX8_exchange 109 = .ok (.invokevirtual 147, 3) := by decide +kernel
theorem dX8_exchange_112 : decode cX8_exchange 112 = .ok (.aload_n 0, 1) := by decide +kernel
theorem dX8_exchange_113 : decode cX8_exchange 113 = .ok (.getfield 140, 3) := by decide +kernel
theorem dX8_exchange_116 : decode cX8_exchange 116 = .ok (.ireturn, 1) := by decide +kernel
theorem dX8_back_0 : decode cX8_back 0 = .ok (.aload_n 0, 1) := by decide +kernel
theorem dX8_back_1 : decode cX8_back 1 = .ok (.getfield 133, 3) := by decide +kernel
theorem dX8_back_4 : decode cX8_back 4 = .ok (.ifCond .ne 6, 3) := by decide +kernel
theorem dX8_back_7 : decode cX8_back 7 = .ok (.bipush (-3), 2) := by decide +kernel
theorem dX8_back_9 : decode cX8_back 9 = .ok (.ireturn, 1) := by decide +kernel
theorem dX8_back_10 : decode cX8_back 10 = .ok (.aload_n 0, 1) := by decide +kernel
theorem dX8_back_11 : decode cX8_back 11 = .ok (.dup, 1) := by decide +kernel
theorem dX8_back_12 : decode cX8_back 12 = .ok (.getfield 133, 3) := by decide +kernel
theorem dX8_back_15 : decode cX8_back 15 = .ok (.iconst 1, 1) := by decide +kernel
theorem dX8_back_16 : decode cX8_back 16 = .ok (.isub, 1) := by decide +kernel
theorem dX8_back_17 : decode cX8_back 17 = .ok (.putfield 133, 3) := by decide +kernel
theorem dX8_back_20 : decode cX8_back 20 = .ok (.aload_n 0, 1) := by decide +kernel
theorem dX8_back_21 : decode cX8_back 21 = .ok (.aload_n 0, 1) := by decide +kernel
theorem dX8_back_22 : decode cX8_back 22 = .ok (.getfield 25, 3) := by decide +kernel
theorem dX8_back_25 : decode cX8_back 25 = .ok (.aload_n 0, 1) := by decide +kernel
theorem dX8_back_26 : decode cX8_back 26 = .ok (.getfield 133, 3) := by decide +kernel
theorem dX8_back_29 : decode cX8_back 29 = .ok (.iaload, 1) := by decide +kernel
theorem dX8_back_30 : decode cX8_back 30 = .ok (.aload_n 0, 1) := by decide +kernel
theorem dX8_back_31 : decode cX8_back 31 = .ok (.getfield 28, 3) := by decide +kernel
theorem dX8_back_34 : decode cX8_back 34 = .ok (.aload_n 0, 1) := by decide +kernel
theorem dX8_back_35 : decode cX8_back 35 = .ok (.getfield 133, 3) := by decide +kernel
theorem dX8_back_38 : decode cX8_back 38 = .ok (.iaload, 1) := by decide +kernel
theorem dX8_back_39 : decode cX8_back 39 = .ok (.invokevirtual 143, 3) := by decide +kernel
theorem dX8_back_42 : decode cX8_back 42 = .ok (.aload_n 0, 1) := by decide +kernel
theorem dX8_back_43 : decode cX8_back 43 = .ok (.getfield 133, 3) := by decide +kernel
theorem dX8_back_46 : decode cX8_back 46 = .ok (.ireturn, 1) := by decide +kernel
theorem dX8_cycles_0 : decode cX8_cycles 0 = .ok (.aload_n 0, 1) := by decide +kernel
theorem dX8_cycles_1 : decode cX8_cycles 1 = .ok (.invokevirtual 136, 3) := by decide +kernel
theorem dX8_cycles_4 : decode cX8_cycles 4 = .ok (.ifCond .ne 6, 3) := by decide +kernel
theorem dX8_cycles_7 : decode cX8_cycles 7 = .ok (.bipush (-3), 2) := by decide +kernel
theorem dX8_cycles_9 : decode cX8_cycles 9 = .ok (.ireturn, 1) := by decide +kernel
theorem dX8_cycles_10 : decode cX8_cycles 10 = .ok (.aload_n 0, 1) := by decide +kernel
theorem dX8_cycles_11 : decode cX8_cycles 11 = .ok (.invokevirtual 147, 3) := by decide +kernel
theorem dX8_cycles_14 : decode cX8_cycles 14 = .ok (.aload_n 0, 1) := by decide +kernel
theorem dX8_cycles_15 : decode cX8_cycles 15 = .ok (.getfield 140, 3) := by decide +kernel
theorem dX8_cycles_18 : decode cX8_cycles 18 = .ok (.ireturn, 1) := by decide +kernel
theorem dX8_cycleOf_0 : decode cX8_cycleOf 0 = .ok (.aload_n 0, 1) := by decide +kernel
theorem dX8_cycleOf_1 : decode cX8_cycleOf 1 = .ok (.invokevirtual 136, 3) := by decide +kernel
theorem dX8_cycleOf_4 : decode cX8_cycleOf 4 = .ok (.ifCond .ne 6, 3) := by decide +kernel
theorem dX8_cycleOf_7 : decode cX8_cycleOf 7 = .ok (.bipush (-3), 2) := by decide +kernel
theorem dX8_cycleOf_9 : decode cX8_cycleOf 9 = .ok (.ireturn, 1) := by decide +kernel
theorem dX8_cycleOf_10 : decode cX8_cycleOf 10 = .ok (.aload_n 0, 1) := by decide +kernel
theorem dX8_cycleOf_11 : decode cX8_cycleOf 11 = .ok (.iload_n 1, 1) := by decide +kernel
theorem dX8_cycleOf_12 : decode cX8_cycleOf 12 = .ok (.invokevirtual 121, 3) := by decide +kernel
theorem dX8_cycleOf_15 : decode cX8_cycleOf 15 = .ok (.ifCond .ne 6, 3) := by decide +kernel
theorem dX8_cycleOf_18 : decode cX8_cycleOf 18 = .ok (.bipush (-2), 2) := by decide +kernel
theorem dX8_cycleOf_20 : decode cX8_cycleOf 20 = .ok (.ireturn, 1) := by decide +kernel
theorem dX8_cycleOf_21 : decode cX8_cycleOf 21 = .ok (.aload_n 0, 1) := by decide +kernel
theorem dX8_cycleOf_22 : decode cX8_cycleOf 22 = .ok (.invokevirtual 147, 3) := by decide +kernel
theorem dX8_cycleOf_25 : decode cX8_cycleOf 25 = .ok (.aload_n 0, 1) := by decide +kernel
theorem dX8_cycleOf_26 : decode cX8_cycleOf 26 = .ok (.getfield 35, 3) := by decide +kernel
theorem dX8_cycleOf_29 : decode cX8_cycleOf 29 = .ok (.iload_n 1, 1) := by decide +kernel
theorem dX8_cycleOf_30 : decode cX8_cycleOf 30 = .ok (.iaload, 1) := by decide +kernel
theorem dX8_cycleOf_31 : decode cX8_cycleOf 31 = .ok (.ireturn, 1) := by decide +kernel
theorem dX8_cycle_0 : decode cX8_cycle 0 = .ok (.aload_n 0, 1) := by decide +kernel
theorem dX8_cycle_1 : decode cX8_cycle 1 = .ok (.invokevirtual 136, 3) := by decide +kernel
theorem dX8_cycle_4 : decode cX8_cycle 4 = .ok (.ifCond .ne 6, 3) := by decide +kernel
theorem dX8_cycle_7 : decode cX8_cycle 7 = .ok (.bipush (-3), 2) := by decide +kernel
theorem dX8_cycle_9 : decode cX8_cycle 9 = .ok (.ireturn, 1) := by decide +kernel
theorem dX8_cycle_10 : decode cX8_cycle 10 = .ok (.aload_n 0, 1) := by decide +kernel
theorem dX8_cycle_11 : decode cX8_cycle 11 = .ok (.invokevirtual 147, 3) := by decide +kernel
theorem dX8_cycle_14 : decode cX8_cycle 14 = .ok (.iload_n 1, 1) := by decide +kernel
theorem dX8_cycle_15 : decode cX8_cycle 15 = .ok (.i2l, 1) := by decide +kernel
theorem dX8_cycle_16 : decode cX8_cycle 16 = .ok (.lconst 0, 1) := by decide +kernel
theorem dX8_cycle_17 : decode cX8_cycle 17 = .ok (.aload_n 0, 1) := by decide +kernel
theorem dX8_cycle_18 : decode cX8_cycle 18 = .ok (.getfield 140, 3) := by decide +kernel
theorem dX8_cycle_21 : decode cX8_cycle 21 = .ok (.iconst 1, 1) := by decide +kernel
theorem dX8_cycle_22 : decode cX8_cycle 22 = .ok (.isub, 1) := by decide +kernel
theorem dX8_cycle_23 : decode cX8_cycle 23 = .ok (.i2l, 1) := by decide +kernel
theorem dX8_cycle_24 : decode cX8_cycle 24 = .ok (.invokestatic 86, 3) := by decide +kernel
theorem dX8_cycle_27 : decode cX8_cycle 27 = .ok (.ifCond .eq 13, 3) := by decide +kernel
theorem dX8_cycle_30 : decode cX8_cycle 30 = .ok (.iload_n 2, 1) := by decide +kernel
theorem dX8_cycle_31 : decode cX8_cycle 31 = .ok (.i2l, 1) := by decide +kernel
theorem dX8_cycle_32 : decode cX8_cycle 32 = .ok (.lconst 0, 1) := by decide +kernel
theorem dX8_cycle_33 : decode cX8_cycle 33 = .ok (.lconst 1, 1) := by decide +kernel
theorem dX8_cycle_34 : decode cX8_cycle 34 = .ok (.invokestatic 86, 3) := by decide +kernel
theorem dX8_cycle_37 : decode cX8_cycle 37 = .ok (.ifCond .ne 6, 3) := by decide +kernel
theorem dX8_cycle_40 : decode cX8_cycle 40 = .ok (.bipush (-2), 2) := by decide +kernel
theorem dX8_cycle_42 : decode cX8_cycle 42 = .ok (.ireturn, 1) := by decide +kernel
theorem dX8_cycle_43 : decode cX8_cycle 43 = .ok (.iconst 0, 1) := by decide +kernel
theorem dX8_cycle_44 : decode cX8_cycle 44 = .ok (.istore_n 3, 1) := by decide +kernel
theorem dX8_cycle_45 : decode cX8_cycle 45 = .ok (.iconst (-1), 1) := by decide +kernel
theorem dX8_cycle_46 : decode cX8_cycle 46 = .ok (.istore 4, 2) := by decide +kernel
theorem dX8_cycle_48 : decode cX8_cycle 48 = .ok (.aload_n 0, 1) := by decide +kernel
theorem dX8_cycle_49 : decode cX8_cycle 49 = .ok (.getfield 99, 3) := by decide +kernel
theorem dX8_cycle_52 : decode cX8_cycle 52 = .ok (.iconst 1, 1) := by decide +kernel
theorem dX8_cycle_53 : decode cX8_cycle 53 = .ok (.isub, 1) := by decide +kernel
theorem dX8_cycle_54 : decode cX8_cycle 54 = .ok (.istore 5, 2) := by decide +kernel
theorem dX8_cycle_56 : decode cX8_cycle 56 = .ok (.iload 5, 2) := by decide +kernel
theorem dX8_cycle_58 : decode cX8_cycle 58 = .ok (.ifCond .lt 27, 3) := by decide +kernel
theorem dX8_cycle_61 : decode cX8_cycle 61 = .ok (.aload_n 0, 1) := by decide +kernel
theorem dX8_cycle_62 : decode cX8_cycle 62 = .ok (.getfield 35, 3) := by decide +kernel
theorem dX8_cycle_65 : decode cX8_cycle 65 = .ok (.iload 5, 2) := by decide +kernel
theorem dX8_cycle_67 : decode cX8_cycle 67 = .ok (.iaload, 1) := by decide +kernel
theorem dX8_cycle_68 : decode cX8_cycle 68 = .ok (.iload_n 1, 1) := by decide +kernel
theorem dX8_cycle_69 : decode cX8_cycle 69 = .ok (.if_icmp .ne 10, 3) := by decide +kernel
theorem dX8_cycle_72 : decode cX8_cycle 72 = .ok (.iinc 3 1, 3) := by decide +kernel
theorem dX8_cycle_75 : decode cX8_cycle 75 = .ok (.iload 5, 2) := by decide +kernel
theorem dX8_cycle_77 : decode cX8_cycle 77 = .ok (.istore 4, 2) := by decide +kernel
theorem dX8_cycle_79 : decode cX8_cycle 79 = .ok (.iinc 5 (-1), 3) := by decide +kernel
theorem dX8_cycle_82 : decode cX8_cycle 82 = .ok (.goto (-26), 3) := by decide +kernel
theorem dX8_cycle_85 : decode cX8_cycle 85 = .ok (.iload_n 2, 1) := by decide +kernel
theorem dX8_cycle_86 : decode cX8_cycle 86 = .ok (.ifCond .ne 8, 3) := by decide +kernel
theorem dX8_cycle_89 : decode cX8_cycle 89 = .ok (.iload 4, 2) := by decide +kernel
theorem dX8_cycle_91 : decode cX8_cycle 91 = .ok (.goto 4, 3) := by decide +kernel
theorem dX8_cycle_94 : decode cX8_cycle 94 = .ok (.iload_n 3, 1) := by decide +kernel
theorem dX8_cycle_95 : decode cX8_cycle 95 = .ok (.ireturn, 1) := by decide +kernel
theorem dX8_groupOf_0 : decode cX8_groupOf 0 = .ok (.iload_n 1, 1) := by decide +kernel
theorem dX8_groupOf_1 : decode cX8_groupOf 1 = .ok (.istore_n 2, 1) := by decide +kernel
theorem dX8_groupOf_2 : decode cX8_groupOf 2 = .ok (.aload_n 0, 1) := by decide +kernel
theorem dX8_groupOf_3 : decode cX8_groupOf 3 = .ok (.getfield 38, 3) := by decide +kernel
theorem dX8_groupOf_6 : decode cX8_groupOf 6 = .ok (.iload_n 2, 1) := by decide +kernel
theorem dX8_groupOf_7 : decode cX8_groupOf 7 = .ok (.iaload, 1) := by decide +kernel
theorem dX8_groupOf_8 : decode cX8_groupOf 8 = .ok (.iload_n 2, 1) := by decide +kernel
theorem dX8_groupOf_9 : decode cX8_groupOf 9 = .ok (.if_icmp .eq 13, 3) := by decide +kernel
theorem dX8_groupOf_12 : decode cX8_groupOf 12 = .ok (.aload_n 0, 1) := by decide +kernel
theorem dX8_groupOf_13 : decode cX8_groupOf 13 = .ok (.getfield 38, 3) := by decide +kernel
theorem dX8_groupOf_16 : decode cX8_groupOf 16 = .ok (.iload_n 2, 1) := by decide +kernel
theorem dX8_groupOf_17 : decode cX8_groupOf 17 = .ok (.iaload, 1) := by decide +kernel
theorem dX8_groupOf_18 : decode cX8_groupOf 18 = .ok (.istore_n 2, 1) := by decide +kernel
theorem dX8_groupOf_19 : decode cX8_groupOf 19 = .ok (.goto (-17), 3) := by decide +kernel
theorem dX8_groupOf_22 : decode cX8_groupOf 22 = .ok (.iload_n 2, 1) := by decide +kernel
theorem dX8_groupOf_23 : decode cX8_groupOf 23 = .ok (.ireturn, 1) := by decide +kernel
theorem dX8_joins_0 : decode cX8_joins 0 = .ok (.aload_n 0, 1) := by decide +kernel
theorem dX8_joins_1 : decode cX8_joins 1 = .ok (.invokevirtual 147, 3) := by decide +kernel
theorem dX8_joins_4 : decode cX8_joins 4 = .ok (.iconst 0, 1) := by decide +kernel
theorem dX8_joins_5 : decode cX8_joins 5 = .ok (.istore_n 2, 1) := by decide +kernel
theorem dX8_joins_6 : decode cX8_joins 6 = .ok (.iload_n 2, 1) := by decide +kernel
theorem dX8_joins_7 : decode cX8_joins 7 = .ok (.aload_n 0, 1) := by decide +kernel
theorem dX8_joins_8 : decode cX8_joins 8 = .ok (.getfield 140, 3) := by decide +kernel
theorem dX8_joins_11 : decode cX8_joins 11 = .ok (.if_icmp .ge 16, 3) := by decide +kernel
theorem dX8_joins_14 : decode cX8_joins 14 = .ok (.aload_n 0, 1) := by decide +kernel
theorem dX8_joins_15 : decode cX8_joins 15 = .ok (.getfield 38, 3) := by decide +kernel
theorem dX8_joins_18 : decode cX8_joins 18 = .ok (.iload_n 2, 1) := by decide +kernel
theorem dX8_joins_19 : decode cX8_joins 19 = .ok (.iload_n 2, 1) := by decide +kernel
theorem dX8_joins_20 : decode cX8_joins 20 = .ok (.iastore, 1) := by decide +kernel
theorem dX8_joins_21 : decode cX8_joins 21 = .ok (.iinc 2 1, 3) := by decide +kernel
theorem dX8_joins_24 : decode cX8_joins 24 = .ok (.goto (-18), 3) := by decide +kernel
theorem dX8_joins_27 : decode cX8_joins 27 = .ok (.aload_n 0, 1) := by decide +kernel
theorem dX8_joins_28 : decode cX8_joins 28 = .ok (.getfield 99, 3) := by decide +kernel
theorem dX8_joins_31 : decode cX8_joins 31 = .ok (.aload_n 0, 1) := by decide +kernel
theorem dX8_joins_32 : decode cX8_joins 32 = .ok (.getfield 92, 3) := by decide +kernel
theorem dX8_joins_35 : decode cX8_joins 35 = .ok (.idiv, 1) := by decide +kernel
theorem dX8_joins_36 : decode cX8_joins 36 = .ok (.istore_n 2, 1) := by decide +kernel
theorem dX8_joins_37 : decode cX8_joins 37 = .ok (.iconst 0, 1) := by decide +kernel
theorem dX8_joins_38 : decode cX8_joins 38 = .ok (.istore_n 3, 1) := by decide +kernel
theorem dX8_joins_39 : decode cX8_joins 39 = .ok (.iconst 0, 1) := by decide +kernel
theorem dX8_joins_40 : decode cX8_joins 40 = .ok (.istore 4, 2) := by decide +kernel
theorem dX8_joins_42 : decode cX8_joins 42 = .ok (.iload 4, 2) := by decide +kernel
theorem dX8_joins_44 : decode cX8_joins 44 = .ok (.iload_n 2, 1) := by decide +kernel
theorem dX8_joins_45 : decode cX8_joins 45 = .ok (.iadd, 1) := by decide +kernel
theorem dX8_joins_46 : decode cX8_joins 46 = .ok (.aload_n 0, 1) := by decide +kernel
theorem dX8_joins_47 : decode cX8_joins 47 = .ok (.getfield 99, 3) := by decide +kernel
theorem dX8_joins_50 : decode cX8_joins 50 = .ok (.if_icmp .ge 128, 3) := by decide +kernel
theorem dX8_joins_53 : decode cX8_joins 53 = .ok (.aload_n 0, 1) := by decide +kernel
theorem dX8_joins_54 : decode cX8_joins 54 = .ok (.aload_n 0, 1) := by decide +kernel
theorem dX8_joins_55 : decode cX8_joins 55 = .ok (.getfield 35, 3) := by decide +kernel
theorem dX8_joins_58 : decode cX8_joins 58 = .ok (.iload 4, 2) := by decide +kernel
theorem dX8_joins_60 : decode cX8_joins 60 = .ok (.iaload, 1) := by decide +kernel
theorem dX8_joins_61 : decode cX8_joins 61 = .ok (.invokevirtual 150, 3) := by decide +kernel
theorem dX8_joins_64 : decode cX8_joins 64 = .ok (.istore 5, 2) := by decide +kernel
theorem dX8_joins_66 : decode cX8_joins 66 = .ok (.aload_n 0, 1) := by decide +kernel
theorem dX8_joins_67 : decode cX8_joins 67 = .ok (.aload_n 0, 1) := by decide +kernel
theorem dX8_joins_68 : decode cX8_joins 68 = .ok (.getfield 35, 3) := by decide +kernel
theorem dX8_joins_71 : decode cX8_joins 71 = .ok (.iload 4, 2) := by decide +kernel
theorem dX8_joins_73 : decode cX8_joins 73 = .ok (.iload_n 2, 1) := by decide +kernel
theorem dX8_joins_74 : decode cX8_joins 74 = .ok (.iadd, 1) := by decide +kernel
theorem dX8_joins_75 : decode cX8_joins 75 = .ok (.iaload, 1) := by decide +kernel
theorem dX8_joins_76 : decode cX8_joins 76 = .ok (.invokevirtual 150, 3) := by decide +kernel
theorem dX8_joins_79 : decode cX8_joins 79 = .ok (.istore 6, 2) := by decide +kernel
theorem dX8_joins_81 : decode cX8_joins 81 = .ok (.iload 5, 2) := by decide +kernel
theorem dX8_joins_83 : decode cX8_joins 83 = .ok (.iload 6, 2) := by decide +kernel
theorem dX8_joins_85 : decode cX8_joins 85 = .ok (.if_icmp .eq 87, 3) := by decide +kernel
theorem dX8_joins_88 : decode cX8_joins 88 = .ok (.aload_n 0, 1) := by decide +kernel
theorem dX8_joins_89 : decode cX8_joins 89 = .ok (.getfield 38, 3) := by decide +kernel
theorem dX8_joins_92 : decode cX8_joins 92 = .ok (.iload 5, 2) := by decide +kernel
theorem dX8_joins_94 : decode cX8_joins 94 = .ok (.iload 6, 2) := by decide +kernel
theorem dX8_joins_96 : decode cX8_joins 96 = .ok (.if_icmp .le 8, 3) := by decide +kernel
theorem dX8_joins_99 : decode cX8_joins 99 = .ok (.iload 5, 2) := by decide +kernel
theorem dX8_joins_101 : decode cX8_joins 101 = .ok (.goto 5, 3) := by decide +kernel
theorem dX8_joins_104 : decode cX8_joins 104 = .ok (.iload 6, 2) := by decide +kernel
theorem dX8_joins_106 : decode cX8_joins 106 = .ok (.iload 5, 2) := by decide +kernel
theorem dX8_joins_108 : decode cX8_joins 108 = .ok (.iload 6, 2) := by decide +kernel
theorem dX8_joins_110 : decode cX8_joins 110 = .ok (.if_icmp .le 8, 3) := by decide +kernel
theorem dX8_joins_113 : decode cX8_joins 113 = .ok (.iload 6, 2) := by decide +kernel
theorem dX8_joins_115 : decode cX8_joins 115 = .ok (.goto 5, 3) := by decide +kernel
theorem dX8_joins_118 : decode cX8_joins 118 = .ok (.iload 5, 2) := by decide +kernel
theorem dX8_joins_120 : decode cX8_joins 120 = .ok (.iastore, 1) := by decide +kernel
theorem dX8_joins_121 : decode cX8_joins 121 = .ok (.iload_n 1, 1) := by decide +kernel
theorem dX8_joins_122 : decode cX8_joins 122 = .ok (.ifCond .eq 47, 3) := by decide +kernel
theorem dX8_joins_125 : decode cX8_joins 125 = .ok (.aload_n 0, 1) := by decide +kernel
theorem dX8_joins_126 : decode cX8_joins 126 = .ok (.iload 4, 2) := by decide +kernel
theorem dX8_joins_128 : decode cX8_joins 128 = .ok (.iload 4, 2) := by decide +kernel
theorem dX8_joins_130 : decode cX8_joins 130 = .ok (.iload_n 2, 1) := by decide +kernel
theorem dX8_joins_131 : decode cX8_joins 131 = .ok (.iadd, 1) := by decide +kernel
theorem dX8_joins_132 : decode cX8_joins 132 = .ok (.invokevirtual 143, 3) := by decide +kernel
theorem dX8_joins_135 : decode cX8_joins 135 = .ok (.aload_n 0, 1) := by decide +kernel
theorem dX8_joins_136 : decode cX8_joins 136 = .ok (.getfield 25, 3) := by decide +kernel
theorem dX8_joins_139 : decode cX8_joins 139 = .ok (.aload_n 0, 1) := by decide +kernel
theorem dX8_joins_140 : decode cX8_joins 140 = .ok (.getfield 133, 3) := by decide +kernel
theorem dX8_joins_143 : decode cX8_joins 143 = .ok (.iload 4, 2) := by decide +kernel
theorem dX8_joins_145 : decode cX8_joins 145 = .ok (.iastore, 1) := by decide +kernel
theorem dX8_joins_146 : decode cX8_joins 146 = .ok (.aload_n 0, 1) := by decide +kernel
theorem dX8_joins_147 : decode cX8_joins 147 = .ok (.getfield 28, 3) := by decide +kernel
theorem dX8_joins_150 : decode cX8_joins 150 = .ok (.aload_n 0, 1) := by decide +kernel
theorem dX8_joins_151 : decode cX8_joins 151 = .ok (.getfield 133, 3) := by decide +kernel
theorem dX8_joins_154 : decode cX8_joins 154 = .ok (.iload 4, 2) := by decide +kernel
theorem dX8_joins_156 : decode cX8_joins 156 = .ok (.iload_n 2, 1) := by decide +kernel
theorem dX8_joins_157 : decode cX8_joins 157 = .ok (.iadd, 1) := by decide +kernel
theorem dX8_joins_158 : decode cX8_joins 158 = .ok (.iastore, 1) := by decide +kernel
theorem dX8_joins_159 : decode cX8_joins 159 = .ok (.aload_n 0, 1) := by decide +kernel
theorem dX8_joins_160 : decode cX8_joins 160 = .ok (.dup, 1) := by decide +kernel
theorem dX8_joins_161 : decode cX8_joins 161 = .ok (.getfield 133, 3) := by decide +kernel
theorem dX8_joins_164 : decode cX8_joins 164 = .ok (.iconst 1, 1) := by decide +kernel
theorem dX8_joins_165 : decode cX8_joins 165 = .ok (.iadd, 1) := by decide +kernel
theorem dX8_joins_166 : decode cX8_joins 166 = .ok (.putfield 133, 3) := by decide +kernel
theorem dX8_joins_169 : decode cX8_joins 169 = .ok (.iinc 3 1, 3) := by decide +kernel
theorem dX8_joins_172 : decode cX8_joins 172 = .ok (.iinc 4 1, 3) := by decide +kernel
theorem dX8_joins_175 : decode cX8_joins 175 = .ok (.goto (-133), 3) := by decide +kernel
theorem dX8_joins_178 : decode cX8_joins 178 = .ok (.iload_n 3, 1) := by decide +kernel
theorem dX8_joins_179 : decode cX8_joins 179 = .ok (.ireturn, 1) := by decide +kernel
theorem dX8_join_0 : decode cX8_join 0 = .ok (.aload_n 0, 1) := by decide +kernel
theorem dX8_join_1 : decode cX8_join 1 = .ok (.invokevirtual 136, 3) := by decide +kernel
theorem dX8_join_4 : decode cX8_join 4 = .ok (.ifCond .ne 6, 3) := by decide +kernel
theorem dX8_join_7 : decode cX8_join 7 = .ok (.bipush (-3), 2) := by decide +kernel
theorem dX8_join_9 : decode cX8_join 9 = .ok (.ireturn, 1) := by decide +kernel
theorem dX8_join_10 : decode cX8_join 10 = .ok (.aload_n 0, 1) := by decide +kernel
theorem dX8_join_11 : decode cX8_join 11 = .ok (.getfield 133, 3) := by decide +kernel
theorem dX8_join_14 : decode cX8_join 14 = .ok (.aload_n 0, 1) := by decide +kernel
theorem dX8_join_15 : decode cX8_join 15 = .ok (.iconst 0, 1) := by decide +kernel
theorem dX8_join_16 : decode cX8_join 16 = .ok (.invokevirtual 153, 3) := by decide +kernel
theorem dX8_join_19 : decode cX8_join 19 = .ok (.iadd, 1) := by decide +kernel
theorem dX8_join_20 : decode cX8_join 20 = .ok (.sipush 400, 3) := by decide +kernel
theorem dX8_join_23 : decode cX8_join 23 = .ok (.if_icmp .le 6, 3) := by decide +kernel
theorem dX8_join_26 : decode cX8_join 26 = .ok (.bipush (-4), 2) := by decide +kernel
theorem dX8_join_28 : decode cX8_join 28 = .ok (.ireturn, 1) := by decide +kernel
theorem dX8_join_29 : decode cX8_join 29 = .ok (.aload_n 0, 1) := by decide +kernel
theorem dX8_join_30 : decode cX8_join 30 = .ok (.iconst 1, 1) := by decide +kernel
theorem dX8_join_31 : decode cX8_join 31 = .ok (.invokevirtual 153, 3) := by decide +kernel
theorem dX8_join_34 : decode cX8_join 34 = .ok (.ireturn, 1) := by decide +kernel
theorem dX8_leastRound_0 : decode cX8_leastRound 0 = .ok (.iconst 0, 1) := by decide +kernel
theorem dX8_leastRound_1 : decode cX8_leastRound 1 = .ok (.istore_n 1, 1) := by decide +kernel
theorem dX8_leastRound_2 : decode cX8_leastRound 2 = .ok (.iconst 0, 1) := by decide +kernel
theorem dX8_leastRound_3 : decode cX8_leastRound 3 = .ok (.istore_n 2, 1) := by decide +kernel
theorem dX8_leastRound_4 : decode cX8_leastRound 4 = .ok (.iload_n 2, 1) := by decide +kernel
theorem dX8_leastRound_5 : decode cX8_leastRound 5 = .ok (.aload_n 0, 1) := by decide +kernel
theorem dX8_leastRound_6 : decode cX8_leastRound 6 = .ok (.getfield 99, 3) := by decide +kernel
theorem dX8_leastRound_9 : decode cX8_leastRound 9 = .ok (.if_icmp .ge 78, 3) := by decide +kernel
theorem dX8_leastRound_12 : decode cX8_leastRound 12 = .ok (.aload_n 0, 1) := by decide +kernel
theorem dX8_leastRound_13 : decode cX8_leastRound 13 = .ok (.getfield 7, 3) := by decide +kernel
theorem dX8_leastRound_16 : decode cX8_leastRound 16 = .ok (.iload_n 2, 1) := by decide +kernel
theorem dX8_leastRound_17 : decode cX8_leastRound 17 = .ok (.iaload, 1) := by decide +kernel
theorem dX8_leastRound_18 : decode cX8_leastRound 18 = .ok (.iload_n 2, 1) := by decide +kernel
theorem dX8_leastRound_19 : decode cX8_leastRound 19 = .ok (.if_icmp .ne 62, 3) := by decide +kernel
theorem dX8_leastRound_22 : decode cX8_leastRound 22 = .ok (.aload_n 0, 1) := by decide +kernel
theorem dX8_leastRound_23 : decode cX8_leastRound 23 = .ok (.iload_n 2, 1) := by decide +kernel
theorem dX8_leastRound_24 : decode cX8_leastRound 24 = .ok (.invokevirtual 127, 3) := by decide +kernel
theorem dX8_leastRound_27 : decode cX8_leastRound 27 = .ok (.istore_n 3, 1) := by decide +kernel
theorem dX8_leastRound_28 : decode cX8_leastRound 28 = .ok (.aload_n 0, 1) := by decide +kernel
theorem dX8_leastRound_29 : decode cX8_leastRound 29 = .ok (.getfield 99, 3) := by decide +kernel
theorem dX8_leastRound_32 : decode cX8_leastRound 32 = .ok (.aload_n 0, 1) := by decide +kernel
theorem dX8_leastRound_33 : decode cX8_leastRound 33 = .ok (.getfield 92, 3) := by decide +kernel
theorem dX8_leastRound_36 : decode cX8_leastRound 36 = .ok (.idiv, 1) := by decide +kernel
theorem dX8_leastRound_37 : decode cX8_leastRound 37 = .ok (.istore 4, 2) := by decide +kernel
theorem dX8_leastRound_39 : decode cX8_leastRound 39 = .ok (.iconst 0, 1) := by decide +kernel
theorem dX8_leastRound_40 : decode cX8_leastRound 40 = .ok (.istore 5, 2) := by decide +kernel
theorem dX8_leastRound_42 : decode cX8_leastRound 42 = .ok (.iload 5, 2) := by decide +kernel
theorem dX8_leastRound_44 : decode cX8_leastRound 44 = .ok (.iload_n 3, 1) := by decide +kernel
theorem dX8_leastRound_45 : decode cX8_leastRound 45 = .ok (.if_icmp .ge 36, 3) := by decide +kernel
theorem dX8_leastRound_48 : decode cX8_leastRound 48 = .ok (.aload_n 0, 1) := by decide +kernel
theorem dX8_leastRound_49 : decode cX8_leastRound 49 = .ok (.getfield 41, 3) := by decide +kernel
theorem dX8_leastRound_52 : decode cX8_leastRound 52 = .ok (.iload_n 1, 1) := by decide +kernel
theorem dX8_leastRound_53 : decode cX8_leastRound 53 = .ok (.iload_n 2, 1) := by decide +kernel
theorem dX8_leastRound_54 : decode cX8_leastRound 54 = .ok (.iload 4, 2) := by decide +kernel
theorem dX8_leastRound_56 : decode cX8_leastRound 56 = .ok (.idiv, 1) := by decide +kernel
theorem dX8_leastRound_57 : decode cX8_leastRound 57 = .ok (.aload_n 0, 1) := by decide +kernel
theorem dX8_leastRound_58 : decode cX8_leastRound 58 = .ok (.getfield 92, 3) := by decide +kernel
theorem dX8_leastRound_61 : decode cX8_leastRound 61 = .ok (.irem, 1) := by decide +kernel
theorem dX8_leastRound_62 : decode cX8_leastRound 62 = .ok (.iastore, 1) := by decide +kernel
theorem dX8_leastRound_63 : decode cX8_leastRound 63 = .ok (.iload 4, 2) := by decide +kernel
theorem dX8_leastRound_65 : decode cX8_leastRound 65 = .ok (.aload_n 0, 1) := by decide +kernel
theorem dX8_leastRound_66 : decode cX8_leastRound 66 = .ok (.getfield 92, 3) := by decide +kernel
theorem dX8_leastRound_69 : decode cX8_leastRound 69 = .ok (.idiv, 1) := by decide +kernel
theorem dX8_leastRound_70 : decode cX8_leastRound 70 = .ok (.istore 4, 2) := by decide +kernel
theorem dX8_leastRound_72 : decode cX8_leastRound 72 = .ok (.iinc 1 1, 3) := by decide +kernel
theorem dX8_leastRound_75 : decode cX8_leastRound 75 = .ok (.iinc 5 1, 3) := by decide +kernel
theorem dX8_leastRound_78 : decode cX8_leastRound 78 = .ok (.goto (-36), 3) := by decide +kernel
theorem dX8_leastRound_81 : decode cX8_leastRound 81 = .ok (.iinc 2 1, 3) := by decide +kernel
theorem dX8_leastRound_84 : decode cX8_leastRound 84 = .ok (.goto (-80), 3) := by decide +kernel
theorem dX8_leastRound_87 : decode cX8_leastRound 87 = .ok (.return_, 1) := by decide +kernel
theorem dX8_greedyRound_0 : decode cX8_greedyRound 0 = .ok (.iconst 0, 1) := by decide +kernel
theorem dX8_greedyRound_1 : decode cX8_greedyRound 1 = .ok (.istore_n 1, 1) := by decide +kernel
theorem dX8_greedyRound_2 : decode cX8_greedyRound 2 = .ok (.iload_n 1, 1) := by decide +kernel
theorem dX8_greedyRound_3 : decode cX8_greedyRound 3 = .ok (.aload_n 0, 1) := by decide +kernel
theorem dX8_greedyRound_4 : decode cX8_greedyRound 4 = .ok (.getfield 99, 3) := by decide +kernel
theorem dX8_greedyRound_7 : decode cX8_greedyRound 7 = .ok (.if_icmp .ge 16, 3) := by decide +kernel
theorem dX8_greedyRound_10 : decode cX8_greedyRound 10 = .ok (.aload_n 0, 1) := by decide +kernel
theorem dX8_greedyRound_11 : decode cX8_greedyRound 11 = .ok (.getfield 31, 3) := by decide +kernel
theorem dX8_greedyRound_14 : decode cX8_greedyRound 14 = .ok (.iload_n 1, 1) := by decide +kernel
theorem dX8_greedyRound_15 : decode cX8_greedyRound 15 = .ok (.iconst 0, 1) := by decide +kernel
theorem dX8_greedyRound_16 : decode cX8_greedyRound 16 = .ok (.bastore, 1) := by decide +kernel
theorem dX8_greedyRound_17 : decode cX8_greedyRound 17 = .ok (.iinc 1 1, 3) := by decide +kernel
theorem dX8_greedyRound_20 : decode cX8_greedyRound 20 = .ok (.goto (-18), 3) := by decide +kernel
theorem dX8_greedyRound_23 : decode cX8_greedyRound 23 = .ok (.aload_n 0, 1) := by decide +kernel
theorem dX8_greedyRound_24 : decode cX8_greedyRound 24 = .ok (.getfield 99, 3) := by decide +kernel
theorem dX8_greedyRound_27 : decode cX8_greedyRound 27 = .ok (.aload_n 0, 1) := by decide +kernel
theorem dX8_greedyRound_28 : decode cX8_greedyRound 28 = .ok (.getfield 92, 3) := by decide +kernel
theorem dX8_greedyRound_31 : decode cX8_greedyRound 31 = .ok (.idiv, 1) := by decide +kernel
theorem dX8_greedyRound_32 : decode cX8_greedyRound 32 = .ok (.istore_n 1, 1) := by decide +kernel
theorem dX8_greedyRound_33 : decode cX8_greedyRound 33 = .ok (.iconst 0, 1) := by decide +kernel
theorem dX8_greedyRound_34 : decode cX8_greedyRound 34 = .ok (.istore_n 2, 1) := by decide +kernel
theorem dX8_greedyRound_35 : decode cX8_greedyRound 35 = .ok (.aload_n 0, 1) := by decide +kernel
theorem dX8_greedyRound_36 : decode cX8_greedyRound 36 = .ok (.getfield 31, 3) := by decide +kernel
theorem dX8_greedyRound_39 : decode cX8_greedyRound 39 = .ok (.iconst 0, 1) := by decide +kernel
theorem dX8_greedyRound_40 : decode cX8_greedyRound 40 = .ok (.iconst 1, 1) := by decide +kernel
theorem dX8_greedyRound_41 : decode cX8_greedyRound 41 = .ok (.bastore, 1) := by decide +kernel
theorem dX8_greedyRound_42 : decode cX8_greedyRound 42 = .ok (.iconst 0, 1) := by decide +kernel
theorem dX8_greedyRound_43 : decode cX8_greedyRound 43 = .ok (.istore_n 3, 1) := by decide +kernel
theorem dX8_greedyRound_44 : decode cX8_greedyRound 44 = .ok (.iload_n 3, 1) := by decide +kernel
theorem dX8_greedyRound_45 : decode cX8_greedyRound 45 = .ok (.aload_n 0, 1) := by decide +kernel
theorem dX8_greedyRound_46 : decode cX8_greedyRound 46 = .ok (.getfield 96, 3) := by decide +kernel
theorem dX8_greedyRound_49 : decode cX8_greedyRound 49 = .ok (.if_icmp .ge 24, 3) := by decide +kernel
theorem dX8_greedyRound_52 : decode cX8_greedyRound 52 = .ok (.iload_n 3, 1) := by decide +kernel
theorem dX8_greedyRound_53 : decode cX8_greedyRound 53 = .ok (.aload_n 0, 1) := by decide +kernel
theorem dX8_greedyRound_54 : decode cX8_greedyRound 54 = .ok (.getfield 99, 3) := by decide +kernel
theorem dX8_greedyRound_57 : decode cX8_greedyRound 57 = .ok (.if_icmp .ge 16, 3) := by decide +kernel
theorem dX8_greedyRound_60 : decode cX8_greedyRound 60 = .ok (.aload_n 0, 1) := by decide +kernel
theorem dX8_greedyRound_61 : decode cX8_greedyRound 61 = .ok (.getfield 41, 3) := by decide +kernel
theorem dX8_greedyRound_64 : decode cX8_greedyRound 64 = .ok (.iload_n 3, 1) := by decide +kernel
theorem dX8_greedyRound_65 : decode cX8_greedyRound 65 = .ok (.iconst 0, 1) := by decide +kernel
theorem dX8_greedyRound_66 : decode cX8_greedyRound 66 = .ok (.iastore, 1) := by decide +kernel
theorem dX8_greedyRound_67 : decode cX8_greedyRound 67 = .ok (.iinc 3 1, 3) := by decide +kernel
theorem dX8_greedyRound_70 : decode cX8_greedyRound 70 = .ok (.goto (-26), 3) := by decide +kernel
theorem dX8_greedyRound_73 : decode cX8_greedyRound 73 = .ok (.aload_n 0, 1) := by decide +kernel
theorem dX8_greedyRound_74 : decode cX8_greedyRound 74 = .ok (.getfield 96, 3) := by decide +kernel
theorem dX8_greedyRound_77 : decode cX8_greedyRound 77 = .ok (.istore_n 3, 1) := by decide +kernel
theorem dX8_greedyRound_78 : decode cX8_greedyRound 78 = .ok (.iload_n 3, 1) := by decide +kernel
theorem dX8_greedyRound_79 : decode cX8_greedyRound 79 = .ok (.aload_n 0, 1) := by decide +kernel
theorem dX8_greedyRound_80 : decode cX8_greedyRound 80 = .ok (.getfield 99, 3) := by decide +kernel
theorem dX8_greedyRound_83 : decode cX8_greedyRound 83 = .ok (.if_icmp .ge 74, 3) := by decide +kernel
theorem dX8_greedyRound_86 : decode cX8_greedyRound 86 = .ok (.aload_n 0, 1) := by decide +kernel
theorem dX8_greedyRound_87 : decode cX8_greedyRound 87 = .ok (.getfield 92, 3) := by decide +kernel
theorem dX8_greedyRound_90 : decode cX8_greedyRound 90 = .ok (.iconst 1, 1) := by decide +kernel
theorem dX8_greedyRound_91 : decode cX8_greedyRound 91 = .ok (.isub, 1) := by decide +kernel
theorem dX8_greedyRound_92 : decode cX8_greedyRound 92 = .ok (.istore 4, 2) := by decide +kernel
theorem dX8_greedyRound_94 : decode cX8_greedyRound 94 = .ok (.iload 4, 2) := by decide +kernel
theorem dX8_greedyRound_96 : decode cX8_greedyRound 96 = .ok (.ifCond .lt 28, 3) := by decide +kernel
theorem dX8_greedyRound_99 : decode cX8_greedyRound 99 = .ok (.aload_n 0, 1) := by decide +kernel
theorem dX8_greedyRound_100 : decode cX8_greedyRound 100 = .ok (.getfield 31, 3) := by decide +kernel
theorem dX8_greedyRound_103 : decode cX8_greedyRound 103 = .ok (.iload_n 2, 1) := by decide +kernel
theorem dX8_greedyRound_104 : decode cX8_greedyRound 104 = .ok (.iload_n 1, 1) := by decide +kernel
theorem dX8_greedyRound_105 : decode cX8_greedyRound 105 = .ok (.irem, 1) := by decide +kernel
theorem dX8_greedyRound_106 : decode cX8_greedyRound 106 = .ok (.aload_n 0, 1) := by decide +kernel
theorem dX8_greedyRound_107 : decode cX8_greedyRound 107 = .ok (.getfield 92, 3) := by decide +kernel
theorem dX8_greedyRound_110 : decode cX8_greedyRound 110 = .ok (.imul, 1) := by decide +kernel
theorem dX8_greedyRound_111 : decode cX8_greedyRound 111 = .ok (.iload 4, 2) := by decide +kernel
theorem dX8_greedyRound_113 : decode cX8_greedyRound 113 = .ok (.iadd, 1) := by decide +kernel
theorem dX8_greedyRound_114 : decode cX8_greedyRound 114 = .ok (.baload, 1) := by decide +kernel
theorem dX8_greedyRound_115 : decode cX8_greedyRound 115 = .ok (.ifCond .eq 9, 3) := by decide +kernel
theorem dX8_greedyRound_118 : decode cX8_greedyRound 118 = .ok (.iinc 4 (-1), 3) := by decide +kernel
theorem dX8_greedyRound_121 : decode cX8_greedyRound 121 = .ok (.goto (-27), 3) := by decide +kernel
theorem dX8_greedyRound_124 : decode cX8_greedyRound 124 = .ok (.iload_n 2, 1) := by decide +kernel
theorem dX8_greedyRound_125 : decode cX8_greedyRound 125 = .ok (.iload_n 1, 1) := by decide +kernel
theorem dX8_greedyRound_126 : decode cX8_greedyRound 126 = .ok (.irem, 1) := by decide +kernel
theorem dX8_greedyRound_127 : decode cX8_greedyRound 127 = .ok (.aload_n 0, 1) := by decide +kernel
theorem dX8_greedyRound_128 : decode cX8_greedyRound 128 = .ok (.getfield 92, 3) := by decide +kernel
theorem dX8_greedyRound_131 : decode cX8_greedyRound 131 = .ok (.imul, 1) := by decide +kernel
theorem dX8_greedyRound_132 : decode cX8_greedyRound 132 = .ok (.iload 4, 2) := by decide +kernel
theorem dX8_greedyRound_134 : decode cX8_greedyRound 134 = .ok (.iadd, 1) := by decide +kernel
theorem dX8_greedyRound_135 : decode cX8_greedyRound 135 = .ok (.istore_n 2, 1) := by decide +kernel
theorem dX8_greedyRound_136 : decode cX8_greedyRound 136 = .ok (.aload_n 0, 1) := by decide +kernel
theorem dX8_greedyRound_137 : decode cX8_greedyRound 137 = .ok (.getfield 31, 3) := by decide +kernel
theorem dX8_greedyRound_140 : decode cX8_greedyRound 140 = .ok (.iload_n 2, 1) := by decide +kernel
theorem dX8_greedyRound_141 : decode cX8_greedyRound 141 = .ok (.iconst 1, 1) := by decide +kernel
theorem dX8_greedyRound_142 : decode cX8_greedyRound 142 = .ok (.bastore, 1) := by decide +kernel
theorem dX8_greedyRound_143 : decode cX8_greedyRound 143 = .ok (.aload_n 0, 1) := by decide +kernel
theorem dX8_greedyRound_144 : decode cX8_greedyRound 144 = .ok (.getfield 41, 3) := by decide +kernel
theorem dX8_greedyRound_147 : decode cX8_greedyRound 147 = .ok (.iload_n 3, 1) := by decide +kernel
theorem dX8_greedyRound_148 : decode cX8_greedyRound 148 = .ok (.iload 4, 2) := by decide +kernel
theorem dX8_greedyRound_150 : decode cX8_greedyRound 150 = .ok (.iastore, 1) := by decide +kernel
theorem dX8_greedyRound_151 : decode cX8_greedyRound 151 = .ok (.iinc 3 1, 3) := by decide +kernel
theorem dX8_greedyRound_154 : decode cX8_greedyRound 154 = .ok (.goto (-76), 3) := by decide +kernel
theorem dX8_greedyRound_157 : decode cX8_greedyRound 157 = .ok (.return_, 1) := by decide +kernel
theorem dX8_round_0 : decode cX8_round 0 = .ok (.iload_n 1, 1) := by decide +kernel
theorem dX8_round_1 : decode cX8_round 1 = .ok (.i2l, 1) := by decide +kernel
theorem dX8_round_2 : decode cX8_round 2 = .ok (.lconst 0, 1) := by decide +kernel
theorem dX8_round_3 : decode cX8_round 3 = .ok (.ldc2_w 82, 3) := by decide +kernel
theorem dX8_round_6 : decode cX8_round 6 = .ok (.invokestatic 86, 3) := by decide +kernel
theorem dX8_round_9 : decode cX8_round 9 = .ok (.ifCond .ne 6, 3) := by decide +kernel
theorem dX8_round_12 : decode cX8_round 12 = .ok (.bipush (-2), 2) := by decide +kernel
theorem dX8_round_14 : decode cX8_round 14 = .ok (.ireturn, 1) := by decide +kernel
theorem dX8_round_15 : decode cX8_round 15 = .ok (.iload_n 1, 1) := by decide +kernel
theorem dX8_round_16 : decode cX8_round 16 = .ok (.iconst 2, 1) := by decide +kernel
theorem dX8_round_17 : decode cX8_round 17 = .ok (.if_icmp .ne 28, 3) := by decide +kernel
theorem dX8_round_20 : decode cX8_round 20 = .ok (.aload_n 0, 1) := by decide +kernel
theorem dX8_round_21 : decode cX8_round 21 = .ok (.invokevirtual 136, 3) := by decide +kernel
theorem dX8_round_24 : decode cX8_round 24 = .ok (.ifCond .ne 6, 3) := by decide +kernel
theorem dX8_round_27 : decode cX8_round 27 = .ok (.bipush (-3), 2) := by decide +kernel
theorem dX8_round_29 : decode cX8_round 29 = .ok (.ireturn, 1) := by decide +kernel
theorem dX8_round_30 : decode cX8_round 30 = .ok (.aload_n 0, 1) := by decide +kernel
theorem dX8_round_31 : decode cX8_round 31 = .ok (.invokevirtual 147, 3) := by decide +kernel
theorem dX8_round_34 : decode cX8_round 34 = .ok (.aload_n 0, 1) := by decide +kernel
theorem dX8_round_35 : decode cX8_round 35 = .ok (.getfield 140, 3) := by decide +kernel
theorem dX8_round_38 : decode cX8_round 38 = .ok (.iconst 1, 1) := by decide +kernel
theorem dX8_round_39 : decode cX8_round 39 = .ok (.if_icmp .le 6, 3) := by decide +kernel
theorem dX8_round_42 : decode cX8_round 42 = .ok (.bipush (-3), 2) := by decide +kernel
theorem dX8_round_44 : decode cX8_round 44 = .ok (.ireturn, 1) := by decide +kernel
theorem dX8_round_45 : decode cX8_round 45 = .ok (.iload_n 1, 1) := by decide +kernel
theorem dX8_round_46 : decode cX8_round 46 = .ok (.ifCond .ne 10, 3) := by decide +kernel
theorem dX8_round_49 : decode cX8_round 49 = .ok (.aload_n 0, 1) := by decide +kernel
theorem dX8_round_50 : decode cX8_round 50 = .ok (.invokevirtual 157, 3) := by decide +kernel
theorem dX8_round_53 : decode cX8_round 53 = .ok (.goto 57, 3) := by decide +kernel
theorem dX8_round_56 : decode cX8_round 56 = .ok (.iload_n 1, 1) := by decide +kernel
theorem dX8_round_57 : decode cX8_round 57 = .ok (.iconst 1, 1) := by decide +kernel
theorem dX8_round_58 : decode cX8_round 58 = .ok (.if_icmp .ne 10, 3) := by decide +kernel
theorem dX8_round_61 : decode cX8_round 61 = .ok (.aload_n 0, 1) := by decide +kernel
theorem dX8_round_62 : decode cX8_round 62 = .ok (.invokevirtual 160, 3) := by decide +kernel
theorem dX8_round_65 : decode cX8_round 65 = .ok (.goto 45, 3) := by decide +kernel
theorem dX8_round_68 : decode cX8_round 68 = .ok (.iconst 0, 1) := by decide +kernel
theorem dX8_round_69 : decode cX8_round 69 = .ok (.istore_n 2, 1) := by decide +kernel
theorem dX8_round_70 : decode cX8_round 70 = .ok (.iconst 0, 1) := by decide +kernel
theorem dX8_round_71 : decode cX8_round 71 = .ok (.istore_n 3, 1) := by decide +kernel
theorem dX8_round_72 : decode cX8_round 72 = .ok (.iload_n 3, 1) := by decide +kernel
theorem dX8_round_73 : decode cX8_round 73 = .ok (.aload_n 0, 1) := by decide +kernel
theorem dX8_round_74 : decode cX8_round 74 = .ok (.getfield 99, 3) := by decide +kernel
theorem dX8_round_77 : decode cX8_round 77 = .ok (.if_icmp .ge 33, 3) := by decide +kernel
theorem dX8_round_80 : decode cX8_round 80 = .ok (.aload_n 0, 1) := by decide +kernel
theorem dX8_round_81 : decode cX8_round 81 = .ok (.getfield 41, 3) := by decide +kernel
theorem dX8_round_84 : decode cX8_round 84 = .ok (.iload_n 3, 1) := by decide +kernel
theorem dX8_round_85 : decode cX8_round 85 = .ok (.iload_n 2, 1) := by decide +kernel
theorem dX8_round_86 : decode cX8_round 86 = .ok (.aload_n 0, 1) := by decide +kernel
theorem dX8_round_87 : decode cX8_round 87 = .ok (.getfield 99, 3) := by decide +kernel
theorem dX8_round_90 : decode cX8_round 90 = .ok (.aload_n 0, 1) := by decide +kernel
theorem dX8_round_91 : decode cX8_round 91 = .ok (.getfield 92, 3) := by decide +kernel
theorem dX8_round_94 : decode cX8_round 94 = .ok (.idiv, 1) := by decide +kernel
theorem dX8_round_95 : decode cX8_round 95 = .ok (.idiv, 1) := by decide +kernel
theorem dX8_round_96 : decode cX8_round 96 = .ok (.iastore, 1) := by decide +kernel
theorem dX8_round_97 : decode cX8_round 97 = .ok (.aload_n 0, 1) := by decide +kernel
theorem dX8_round_98 : decode cX8_round 98 = .ok (.getfield 22, 3) := by decide +kernel
theorem dX8_round_101 : decode cX8_round 101 = .ok (.iload_n 2, 1) := by decide +kernel
theorem dX8_round_102 : decode cX8_round 102 = .ok (.iaload, 1) := by decide +kernel
theorem dX8_round_103 : decode cX8_round 103 = .ok (.istore_n 2, 1) := by decide +kernel
theorem dX8_round_104 : decode cX8_round 104 = .ok (.iinc 3 1, 3) := by decide +kernel
theorem dX8_round_107 : decode cX8_round 107 = .ok (.goto (-35), 3) := by decide +kernel
theorem dX8_round_110 : decode cX8_round 110 = .ok (.aload_n 0, 1) := by decide +kernel
theorem dX8_round_111 : decode cX8_round 111 = .ok (.iload_n 1, 1) := by decide +kernel
theorem dX8_round_112 : decode cX8_round 112 = .ok (.putfield 112, 3) := by decide +kernel
theorem dX8_round_115 : decode cX8_round 115 = .ok (.iconst 0, 1) := by decide +kernel
theorem dX8_round_116 : decode cX8_round 116 = .ok (.istore_n 2, 1) := by decide +kernel
theorem dX8_round_117 : decode cX8_round 117 = .ok (.iload_n 2, 1) := by decide +kernel
theorem dX8_round_118 : decode cX8_round 118 = .ok (.aload_n 0, 1) := by decide +kernel
theorem dX8_round_119 : decode cX8_round 119 = .ok (.getfield 99, 3) := by decide +kernel
theorem dX8_round_122 : decode cX8_round 122 = .ok (.if_icmp .ge 58, 3) := by decide +kernel
theorem dX8_round_125 : decode cX8_round 125 = .ok (.iconst 0, 1) := by decide +kernel
theorem dX8_round_126 : decode cX8_round 126 = .ok (.istore_n 3, 1) := by decide +kernel
theorem dX8_round_127 : decode cX8_round 127 = .ok (.iconst 0, 1) := by decide +kernel
theorem dX8_round_128 : decode cX8_round 128 = .ok (.istore 4, 2) := by decide +kernel
theorem dX8_round_130 : decode cX8_round 130 = .ok (.iload 4, 2) := by decide +kernel
theorem dX8_round_132 : decode cX8_round 132 = .ok (.aload_n 0, 1) := by decide +kernel
theorem dX8_round_133 : decode cX8_round 133 = .ok (.getfield 96, 3) := by decide +kernel
theorem dX8_round_136 : decode cX8_round 136 = .ok (.if_icmp .ge 31, 3) := by decide +kernel
theorem dX8_round_139 : decode cX8_round 139 = .ok (.iload_n 3, 1) := by decide +kernel
theorem dX8_round_140 : decode cX8_round 140 = .ok (.aload_n 0, 1) := by decide +kernel
theorem dX8_round_141 : decode cX8_round 141 = .ok (.getfield 92, 3) := by decide +kernel
theorem dX8_round_144 : decode cX8_round 144 = .ok (.imul, 1) := by decide +kernel
theorem dX8_round_145 : decode cX8_round 145 = .ok (.aload_n 0, 1) := by decide +kernel
theorem dX8_round_146 : decode cX8_round 146 = .ok (.getfield 41, 3) := by decide +kernel
theorem dX8_round_149 : decode cX8_round 149 = .ok (.iload_n 2, 1) := by decide +kernel
theorem dX8_round_150 : decode cX8_round 150 = .ok (.iload 4, 2) := by decide +kernel
theorem dX8_round_152 : decode cX8_round 152 = .ok (.iadd, 1) := by decide +kernel
theorem dX8_round_153 : decode cX8_round 153 = .ok (.aload_n 0, 1) := by decide +kernel
theorem dX8_round_154 : decode cX8_round 154 = .ok (.getfield 99, 3) := by decide +kernel
theorem dX8_round_157 : decode cX8_round 157 = .ok (.irem, 1) := by decide +kernel
theorem dX8_round_158 : decode cX8_round 158 = .ok (.iaload, 1) := by decide +kernel
theorem dX8_round_159 : decode cX8_round 159 = .ok (.iadd, 1) := by decide +kernel
theorem dX8_round_160 : decode cX8_round 160 = .ok (.istore_n 3, 1) := by decide +kernel
theorem dX8_round_161 : decode cX8_round 161 = .ok (.iinc 4 1, 3) := by decide +kernel
theorem dX8_round_164 : decode cX8_round 164 = .ok (.goto (-34), 3) := by decide +kernel
theorem dX8_round_167 : decode cX8_round 167 = .ok (.aload_n 0, 1) := by decide +kernel
theorem dX8_round_168 : decode cX8_round 168 = .ok (.getfield 44, 3) := by decide +kernel
theorem dX8_round_171 : decode cX8_round 171 = .ok (.iload_n 3, 1) := by decide +kernel
theorem dX8_round_172 : decode cX8_round 172 = .ok (.iload_n 2, 1) := by decide +kernel
theorem dX8_round_173 : decode cX8_round 173 = .ok (.iastore, 1) := by decide +kernel
theorem dX8_round_174 : decode cX8_round 174 = .ok (.iinc 2 1, 3) := by decide +kernel
theorem dX8_round_177 : decode cX8_round 177 = .ok (.goto (-60), 3) := by decide +kernel
theorem dX8_round_180 : decode cX8_round 180 = .ok (.aload_n 0, 1) := by decide +kernel
theorem dX8_round_181 : decode cX8_round 181 = .ok (.getfield 99, 3) := by decide +kernel
theorem dX8_round_184 : decode cX8_round 184 = .ok (.ireturn, 1) := by decide +kernel
theorem dX8_letter_0 : decode cX8_letter 0 = .ok (.aload_n 0, 1) := by decide +kernel
theorem dX8_letter_1 : decode cX8_letter 1 = .ok (.getfield 112, 3) := by decide +kernel
theorem dX8_letter_4 : decode cX8_letter 4 = .ok (.iconst (-1), 1) := by decide +kernel
theorem dX8_letter_5 : decode cX8_letter 5 = .ok (.if_icmp .eq 28, 3) := by decide +kernel
theorem dX8_letter_8 : decode cX8_letter 8 = .ok (.iload_n 1, 1) := by decide +kernel
theorem dX8_letter_9 : decode cX8_letter 9 = .ok (.i2l, 1) := by decide +kernel
theorem dX8_letter_10 : decode cX8_letter 10 = .ok (.lconst 0, 1) := by decide +kernel
theorem dX8_letter_11 : decode cX8_letter 11 = .ok (.aload_n 0, 1) := by decide +kernel
theorem dX8_letter_12 : decode cX8_letter 12 = .ok (.getfield 99, 3) := by decide +kernel
theorem dX8_letter_15 : decode cX8_letter 15 = .ok (.iconst 1, 1) := by decide +kernel
theorem dX8_letter_16 : decode cX8_letter 16 = .ok (.isub, 1) := by decide +kernel
theorem dX8_letter_17 : decode cX8_letter 17 = .ok (.i2l, 1) := by decide +kernel
theorem dX8_letter_18 : decode cX8_letter 18 = .ok (.invokestatic 86, 3) := by decide +kernel
theorem dX8_letter_21 : decode cX8_letter 21 = .ok (.ifCond .eq 12, 3) := by decide +kernel
theorem dX8_letter_24 : decode cX8_letter 24 = .ok (.aload_n 0, 1) := by decide +kernel
theorem dX8_letter_25 : decode cX8_letter 25 = .ok (.getfield 41, 3) := by decide +kernel
theorem dX8_letter_28 : decode cX8_letter 28 = .ok (.iload_n 1, 1) := by decide +kernel
theorem dX8_letter_29 : decode cX8_letter 29 = .ok (.iaload, 1) := by decide +kernel
theorem dX8_letter_30 : decode cX8_letter 30 = .ok (.goto 5, 3) := by decide +kernel
theorem dX8_letter_33 : decode cX8_letter 33 = .ok (.bipush (-2), 2) := by decide +kernel
theorem dX8_letter_35 : decode cX8_letter 35 = .ok (.ireturn, 1) := by decide +kernel
theorem dX8_place_0 : decode cX8_place 0 = .ok (.aload_n 0, 1) := by decide +kernel
theorem dX8_place_1 : decode cX8_place 1 = .ok (.iload_n 1, 1) := by decide +kernel
theorem dX8_place_2 : decode cX8_place 2 = .ok (.invokevirtual 121, 3) := by decide +kernel
theorem dX8_place_5 : decode cX8_place 5 = .ok (.ifCond .ne 6, 3) := by decide +kernel
theorem dX8_place_8 : decode cX8_place 8 = .ok (.bipush (-2), 2) := by decide +kernel
theorem dX8_place_10 : decode cX8_place 10 = .ok (.ireturn, 1) := by decide +kernel
theorem dX8_place_11 : decode cX8_place 11 = .ok (.aload_n 0, 1) := by decide +kernel
theorem dX8_place_12 : decode cX8_place 12 = .ok (.getfield 112, 3) := by decide +kernel
theorem dX8_place_15 : decode cX8_place 15 = .ok (.iconst (-1), 1) := by decide +kernel
theorem dX8_place_16 : decode cX8_place 16 = .ok (.if_icmp .ne 8, 3) := by decide +kernel
theorem dX8_place_19 : decode cX8_place 19 = .ok (.bipush (-3), 2) := by decide +kernel
theorem dX8_place_21 : decode cX8_place 21 = .ok (.goto 9, 3) := by decide +kernel
theorem dX8_place_24 : decode cX8_place 24 = .ok (.aload_n 0, 1) := by decide +kernel
theorem dX8_place_25 : decode cX8_place 25 = .ok (.getfield 44, 3) := by decide +kernel
theorem dX8_place_28 : decode cX8_place 28 = .ok (.iload_n 1, 1) := by decide +kernel
theorem dX8_place_29 : decode cX8_place 29 = .ok (.iaload, 1) := by decide +kernel
theorem dX8_place_30 : decode cX8_place 30 = .ok (.ireturn, 1) := by decide +kernel
theorem dX8_way_0 : decode cX8_way 0 = .ok (.aload_n 0, 1) := by decide +kernel
theorem dX8_way_1 : decode cX8_way 1 = .ok (.getfield 112, 3) := by decide +kernel
theorem dX8_way_4 : decode cX8_way 4 = .ok (.iconst (-1), 1) := by decide +kernel
theorem dX8_way_5 : decode cX8_way 5 = .ok (.if_icmp .eq 35, 3) := by decide +kernel
theorem dX8_way_8 : decode cX8_way 8 = .ok (.iload_n 1, 1) := by decide +kernel
theorem dX8_way_9 : decode cX8_way 9 = .ok (.i2l, 1) := by decide +kernel
theorem dX8_way_10 : decode cX8_way 10 = .ok (.lconst 0, 1) := by decide +kernel
theorem dX8_way_11 : decode cX8_way 11 = .ok (.aload_n 0, 1) := by decide +kernel
theorem dX8_way_12 : decode cX8_way 12 = .ok (.getfield 99, 3) := by decide +kernel
theorem dX8_way_15 : decode cX8_way 15 = .ok (.iconst 1, 1) := by decide +kernel
theorem dX8_way_16 : decode cX8_way 16 = .ok (.isub, 1) := by decide +kernel
theorem dX8_way_17 : decode cX8_way 17 = .ok (.i2l, 1) := by decide +kernel
theorem dX8_way_18 : decode cX8_way 18 = .ok (.invokestatic 86, 3) := by decide +kernel
theorem dX8_way_21 : decode cX8_way 21 = .ok (.ifCond .eq 19, 3) := by decide +kernel
theorem dX8_way_24 : decode cX8_way 24 = .ok (.iload_n 2, 1) := by decide +kernel
theorem dX8_way_25 : decode cX8_way 25 = .ok (.i2l, 1) := by decide +kernel
theorem dX8_way_26 : decode cX8_way 26 = .ok (.lconst 0, 1) := by decide +kernel
theorem dX8_way_27 : decode cX8_way 27 = .ok (.aload_n 0, 1) := by decide +kernel
theorem dX8_way_28 : decode cX8_way 28 = .ok (.getfield 99, 3) := by decide +kernel
theorem dX8_way_31 : decode cX8_way 31 = .ok (.iconst 1, 1) := by decide +kernel
theorem dX8_way_32 : decode cX8_way 32 = .ok (.isub, 1) := by decide +kernel
theorem dX8_way_33 : decode cX8_way 33 = .ok (.i2l, 1) := by decide +kernel
theorem dX8_way_34 : decode cX8_way 34 = .ok (.invokestatic 86, 3) := by decide +kernel
theorem dX8_way_37 : decode cX8_way 37 = .ok (.ifCond .ne 6, 3) := by decide +kernel
theorem dX8_way_40 : decode cX8_way 40 = .ok (.bipush (-2), 2) := by decide +kernel
theorem dX8_way_42 : decode cX8_way 42 = .ok (.ireturn, 1) := by decide +kernel
theorem dX8_way_43 : decode cX8_way 43 = .ok (.iload_n 2, 1) := by decide +kernel
theorem dX8_way_44 : decode cX8_way 44 = .ok (.iload_n 1, 1) := by decide +kernel
theorem dX8_way_45 : decode cX8_way 45 = .ok (.if_icmp .lt 9, 3) := by decide +kernel
theorem dX8_way_48 : decode cX8_way 48 = .ok (.iload_n 2, 1) := by decide +kernel
theorem dX8_way_49 : decode cX8_way 49 = .ok (.iload_n 1, 1) := by decide +kernel
theorem dX8_way_50 : decode cX8_way 50 = .ok (.isub, 1) := by decide +kernel
theorem dX8_way_51 : decode cX8_way 51 = .ok (.goto 11, 3) := by decide +kernel
theorem dX8_way_54 : decode cX8_way 54 = .ok (.iload_n 2, 1) := by decide +kernel
theorem dX8_way_55 : decode cX8_way 55 = .ok (.iload_n 1, 1) := by decide +kernel
theorem dX8_way_56 : decode cX8_way 56 = .ok (.isub, 1) := by decide +kernel
theorem dX8_way_57 : decode cX8_way 57 = .ok (.aload_n 0, 1) := by decide +kernel
theorem dX8_way_58 : decode cX8_way 58 = .ok (.getfield 99, 3) := by decide +kernel
theorem dX8_way_61 : decode cX8_way 61 = .ok (.iadd, 1) := by decide +kernel
theorem dX8_way_62 : decode cX8_way 62 = .ok (.ireturn, 1) := by decide +kernel
end
section
theorem dX8_met_0 : decode cX8_met 0 = .ok (.aload_n 0, 1) := by decide +kernel
theorem dX8_met_1 : decode cX8_met 1 = .ok (.iload_n 1, 1) := by decide +kernel
theorem dX8_met_2 : decode cX8_met 2 = .ok (.putfield 163, 3) := by decide +kernel
theorem dX8_met_5 : decode cX8_met 5 = .ok (.bipush (-10), 2) := by decide +kernel
theorem dX8_met_7 : decode cX8_met 7 = .ok (.iload_n 1, 1) := by decide +kernel
theorem dX8_met_8 : decode cX8_met 8 = .ok (.isub, 1) := by decide +kernel
theorem dX8_met_9 : decode cX8_met 9 = .ok (.ireturn, 1) := by decide +kernel
theorem dX8_isTape_0 : decode cX8_isTape 0 = .ok (.iload_n 0, 1) := by decide +kernel
theorem dX8_isTape_1 : decode cX8_isTape 1 = .ok (.i2l, 1) := by decide +kernel
theorem dX8_isTape_2 : decode cX8_isTape 2 = .ok (.lconst 0, 1) := by decide +kernel
theorem dX8_isTape_3 : decode cX8_isTape 3 = .ok (.ldc2_w 166, 3) := by decide +kernel
theorem dX8_isTape_6 : decode cX8_isTape 6 = .ok (.invokestatic 86, 3) := by decide +kernel
theorem dX8_isTape_9 : decode cX8_isTape 9 = .ok (.ireturn, 1) := by decide +kernel
theorem dX8_tape_0 : decode cX8_tape 0 = .ok (.iload_n 1, 1) := by decide +kernel
theorem dX8_tape_1 : decode cX8_tape 1 = .ok (.invokestatic 168, 3) := by decide +kernel
theorem dX8_tape_4 : decode cX8_tape 4 = .ok (.ifCond .eq 22, 3) := by decide +kernel
theorem dX8_tape_7 : decode cX8_tape 7 = .ok (.iload_n 2, 1) := by decide +kernel
theorem dX8_tape_8 : decode cX8_tape 8 = .ok (.i2l, 1) := by decide +kernel
theorem dX8_tape_9 : decode cX8_tape 9 = .ok (.lconst 0, 1) := by decide +kernel
theorem dX8_tape_10 : decode cX8_tape 10 = .ok (.ldc2_w 82, 3) := by decide +kernel
theorem dX8_tape_13 : decode cX8_tape 13 = .ok (.invokestatic 86, 3) := by decide +kernel
theorem dX8_tape_16 : decode cX8_tape 16 = .ok (.ifCond .eq 10, 3) := by decide +kernel
theorem dX8_tape_19 : decode cX8_tape 19 = .ok (.iload_n 3, 1) := by decide +kernel
theorem dX8_tape_20 : decode cX8_tape 20 = .ok (.sipush 200, 3) := by decide +kernel
theorem dX8_tape_23 : decode cX8_tape 23 = .ok (.if_icmp .le 6, 3) := by decide +kernel
theorem dX8_tape_26 : decode cX8_tape 26 = .ok (.bipush (-2), 2) := by decide +kernel
theorem dX8_tape_28 : decode cX8_tape 28 = .ok (.ireturn, 1) := by decide +kernel
theorem dX8_tape_29 : decode cX8_tape 29 = .ok (.iload_n 3, 1) := by decide +kernel
theorem dX8_tape_30 : decode cX8_tape 30 = .ok (.ifCond .ge 9, 3) := by decide +kernel
theorem dX8_tape_33 : decode cX8_tape 33 = .ok (.aload_n 0, 1) := by decide +kernel
theorem dX8_tape_34 : decode cX8_tape 34 = .ok (.iconst 5, 1) := by decide +kernel
theorem dX8_tape_35 : decode cX8_tape 35 = .ok (.invokevirtual 171, 3) := by decide +kernel
theorem dX8_tape_38 : decode cX8_tape 38 = .ok (.ireturn, 1) := by decide +kernel
theorem dX8_tape_39 : decode cX8_tape 39 = .ok (.aload_n 0, 1) := by decide +kernel
theorem dX8_tape_40 : decode cX8_tape 40 = .ok (.getfield 47, 3) := by decide +kernel
theorem dX8_tape_43 : decode cX8_tape 43 = .ok (.iload_n 1, 1) := by decide +kernel
theorem dX8_tape_44 : decode cX8_tape 44 = .ok (.iload_n 2, 1) := by decide +kernel
theorem dX8_tape_45 : decode cX8_tape 45 = .ok (.iastore, 1) := by decide +kernel
theorem dX8_tape_46 : decode cX8_tape 46 = .ok (.aload_n 0, 1) := by decide +kernel
theorem dX8_tape_47 : decode cX8_tape 47 = .ok (.getfield 50, 3) := by decide +kernel
theorem dX8_tape_50 : decode cX8_tape 50 = .ok (.iload_n 1, 1) := by decide +kernel
theorem dX8_tape_51 : decode cX8_tape 51 = .ok (.iload_n 3, 1) := by decide +kernel
theorem dX8_tape_52 : decode cX8_tape 52 = .ok (.iastore, 1) := by decide +kernel
theorem dX8_tape_53 : decode cX8_tape 53 = .ok (.iconst 0, 1) := by decide +kernel
theorem dX8_tape_54 : decode cX8_tape 54 = .ok (.istore 4, 2) := by decide +kernel
theorem dX8_tape_56 : decode cX8_tape 56 = .ok (.iload 4, 2) := by decide +kernel
theorem dX8_tape_58 : decode cX8_tape 58 = .ok (.iload_n 3, 1) := by decide +kernel
theorem dX8_tape_59 : decode cX8_tape 59 = .ok (.if_icmp .ge 23, 3) := by decide +kernel
theorem dX8_tape_62 : decode cX8_tape 62 = .ok (.aload_n 0, 1) := by decide +kernel
theorem dX8_tape_63 : decode cX8_tape 63 = .ok (.getfield 53, 3) := by decide +kernel
theorem dX8_tape_66 : decode cX8_tape 66 = .ok (.sipush 200, 3) := by decide +kernel
theorem dX8_tape_69 : decode cX8_tape 69 = .ok (.iload_n 1, 1) := by decide +kernel
theorem dX8_tape_70 : decode cX8_tape 70 = .ok (.imul, 1) := by decide +kernel
theorem dX8_tape_71 : decode cX8_tape 71 = .ok (.iload 4, 2) := by decide +kernel
theorem dX8_tape_73 : decode cX8_tape 73 = .ok (.iadd, 1) := by decide +kernel
theorem dX8_tape_74 : decode cX8_tape 74 = .ok (.iconst 0, 1) := by decide +kernel
theorem dX8_tape_75 : decode cX8_tape 75 = .ok (.iastore, 1) := by decide +kernel
theorem dX8_tape_76 : decode cX8_tape 76 = .ok (.iinc 4 1, 3) := by decide +kernel
theorem dX8_tape_79 : decode cX8_tape 79 = .ok (.goto (-23), 3) := by decide +kernel
theorem dX8_tape_82 : decode cX8_tape 82 = .ok (.iload_n 3, 1) := by decide +kernel
theorem dX8_tape_83 : decode cX8_tape 83 = .ok (.ireturn, 1) := by decide +kernel
theorem dX8_lose_0 : decode cX8_lose 0 = .ok (.iload_n 1, 1) := by decide +kernel
theorem dX8_lose_1 : decode cX8_lose 1 = .ok (.invokestatic 168, 3) := by decide +kernel
theorem dX8_lose_4 : decode cX8_lose 4 = .ok (.ifCond .ne 6, 3) := by decide +kernel
theorem dX8_lose_7 : decode cX8_lose 7 = .ok (.bipush (-2), 2) := by decide +kernel
theorem dX8_lose_9 : decode cX8_lose 9 = .ok (.ireturn, 1) := by decide +kernel
theorem dX8_lose_10 : decode cX8_lose 10 = .ok (.aload_n 0, 1) := by decide +kernel
theorem dX8_lose_11 : decode cX8_lose 11 = .ok (.getfield 47, 3) := by decide +kernel
theorem dX8_lose_14 : decode cX8_lose 14 = .ok (.iload_n 1, 1) := by decide +kernel
theorem dX8_lose_15 : decode cX8_lose 15 = .ok (.iaload, 1) := by decide +kernel
theorem dX8_lose_16 : decode cX8_lose 16 = .ok (.ifCond .ge 9, 3) := by decide +kernel
theorem dX8_lose_19 : decode cX8_lose 19 = .ok (.aload_n 0, 1) := by decide +kernel
theorem dX8_lose_20 : decode cX8_lose 20 = .ok (.iconst 1, 1) := by decide +kernel
theorem dX8_lose_21 : decode cX8_lose 21 = .ok (.invokevirtual 171, 3) := by decide +kernel
theorem dX8_lose_24 : decode cX8_lose 24 = .ok (.ireturn, 1) := by decide +kernel
theorem dX8_lose_25 : decode cX8_lose 25 = .ok (.aload_n 0, 1) := by decide +kernel
theorem dX8_lose_26 : decode cX8_lose 26 = .ok (.getfield 47, 3) := by decide +kernel
theorem dX8_lose_29 : decode cX8_lose 29 = .ok (.iload_n 1, 1) := by decide +kernel
theorem dX8_lose_30 : decode cX8_lose 30 = .ok (.iconst (-1), 1) := by decide +kernel
theorem dX8_lose_31 : decode cX8_lose 31 = .ok (.iastore, 1) := by decide +kernel
theorem dX8_lose_32 : decode cX8_lose 32 = .ok (.aload_n 0, 1) := by decide +kernel
theorem dX8_lose_33 : decode cX8_lose 33 = .ok (.getfield 50, 3) := by decide +kernel
theorem dX8_lose_36 : decode cX8_lose 36 = .ok (.iload_n 1, 1) := by decide +kernel
theorem dX8_lose_37 : decode cX8_lose 37 = .ok (.iaload, 1) := by decide +kernel
theorem dX8_lose_38 : decode cX8_lose 38 = .ok (.ireturn, 1) := by decide +kernel
theorem dX8_lacks_0 : decode cX8_lacks 0 = .ok (.aload_n 0, 1) := by decide +kernel
theorem dX8_lacks_1 : decode cX8_lacks 1 = .ok (.getfield 47, 3) := by decide +kernel
theorem dX8_lacks_4 : decode cX8_lacks 4 = .ok (.iload_n 1, 1) := by decide +kernel
theorem dX8_lacks_5 : decode cX8_lacks 5 = .ok (.iaload, 1) := by decide +kernel
theorem dX8_lacks_6 : decode cX8_lacks 6 = .ok (.ifCond .ge 9, 3) := by decide +kernel
theorem dX8_lacks_9 : decode cX8_lacks 9 = .ok (.aload_n 0, 1) := by decide +kernel
theorem dX8_lacks_10 : decode cX8_lacks 10 = .ok (.iconst 1, 1) := by decide +kernel
theorem dX8_lacks_11 : decode cX8_lacks 11 = .ok (.invokevirtual 171, 3) := by decide +kernel
theorem dX8_lacks_14 : decode cX8_lacks 14 = .ok (.ireturn, 1) := by decide +kernel
theorem dX8_lacks_15 : decode cX8_lacks 15 = .ok (.aload_n 0, 1) := by decide +kernel
theorem dX8_lacks_16 : decode cX8_lacks 16 = .ok (.getfield 47, 3) := by decide +kernel
theorem dX8_lacks_19 : decode cX8_lacks 19 = .ok (.iload_n 1, 1) := by decide +kernel
theorem dX8_lacks_20 : decode cX8_lacks 20 = .ok (.iaload, 1) := by decide +kernel
theorem dX8_lacks_21 : decode cX8_lacks 21 = .ok (.iload_n 2, 1) := by decide +kernel
theorem dX8_lacks_22 : decode cX8_lacks 22 = .ok (.if_icmp .eq 9, 3) := by decide +kernel
theorem dX8_lacks_25 : decode cX8_lacks 25 = .ok (.aload_n 0, 1) := by decide +kernel
theorem dX8_lacks_26 : decode cX8_lacks 26 = .ok (.iconst 3, 1) := by decide +kernel
theorem dX8_lacks_27 : decode cX8_lacks 27 = .ok (.invokevirtual 171, 3) := by decide +kernel
theorem dX8_lacks_30 : decode cX8_lacks 30 = .ok (.ireturn, 1) := by decide +kernel
theorem dX8_lacks_31 : decode cX8_lacks 31 = .ok (.iload_n 3, 1) := by decide +kernel
theorem dX8_lacks_32 : decode cX8_lacks 32 = .ok (.i2l, 1) := by decide +kernel
theorem dX8_lacks_33 : decode cX8_lacks 33 = .ok (.lconst 0, 1) := by decide +kernel
theorem dX8_lacks_34 : decode cX8_lacks 34 = .ok (.aload_n 0, 1) := by decide +kernel
theorem dX8_lacks_35 : decode cX8_lacks 35 = .ok (.getfield 50, 3) := by decide +kernel
theorem dX8_lacks_38 : decode cX8_lacks 38 = .ok (.iload_n 1, 1) := by decide +kernel
theorem dX8_lacks_39 : decode cX8_lacks 39 = .ok (.iaload, 1) := by decide +kernel
theorem dX8_lacks_40 : decode cX8_lacks 40 = .ok (.iconst 1, 1) := by decide +kernel
theorem dX8_lacks_41 : decode cX8_lacks 41 = .ok (.isub, 1) := by decide +kernel
theorem dX8_lacks_42 : decode cX8_lacks 42 = .ok (.i2l, 1) := by decide +kernel
theorem dX8_lacks_43 : decode cX8_lacks 43 = .ok (.invokestatic 86, 3) := by decide +kernel
theorem dX8_lacks_46 : decode cX8_lacks 46 = .ok (.ifCond .eq 7, 3) := by decide +kernel
theorem dX8_lacks_49 : decode cX8_lacks 49 = .ok (.iconst 0, 1) := by decide +kernel
theorem dX8_lacks_50 : decode cX8_lacks 50 = .ok (.goto 8, 3) := by decide +kernel
theorem dX8_lacks_53 : decode cX8_lacks 53 = .ok (.aload_n 0, 1) := by decide +kernel
theorem dX8_lacks_54 : decode cX8_lacks 54 = .ok (.iconst 2, 1) := by decide +kernel
theorem dX8_lacks_55 : decode cX8_lacks 55 = .ok (.invokevirtual 171, 3) := by decide +kernel
theorem dX8_lacks_58 : decode cX8_lacks 58 = .ok (.ireturn, 1) := by decide +kernel
theorem dX8_put_0 : decode cX8_put 0 = .ok (.iload_n 1, 1) := by decide +kernel
theorem dX8_put_1 : decode cX8_put 1 = .ok (.invokestatic 168, 3) := by decide +kernel
theorem dX8_put_4 : decode cX8_put 4 = .ok (.ifCond .eq 15, 3) := by decide +kernel
theorem dX8_put_7 : decode cX8_put 7 = .ok (.iload_n 2, 1) := by decide +kernel
theorem dX8_put_8 : decode cX8_put 8 = .ok (.i2l, 1) := by decide +kernel
theorem dX8_put_9 : decode cX8_put 9 = .ok (.lconst 0, 1) := by decide +kernel
theorem dX8_put_10 : decode cX8_put 10 = .ok (.ldc2_w 82, 3) := by decide +kernel
theorem dX8_put_13 : decode cX8_put 13 = .ok (.invokestatic 86, 3) := by decide +kernel
theorem dX8_put_16 : decode cX8_put 16 = .ok (.ifCond .ne 6, 3) := by decide +kernel
theorem dX8_put_19 : decode cX8_put 19 = .ok (.bipush (-2), 2) := by decide +kernel
theorem dX8_put_21 : decode cX8_put 21 = .ok (.ireturn, 1) := by decide +kernel
theorem dX8_put_22 : decode cX8_put 22 = .ok (.aload_n 0, 1) := by decide +kernel
theorem dX8_put_23 : decode cX8_put 23 = .ok (.iload_n 1, 1) := by decide +kernel
theorem dX8_put_24 : decode cX8_put 24 = .ok (.iload_n 2, 1) := by decide +kernel
theorem dX8_put_25 : decode cX8_put 25 = .ok (.iload_n 3, 1) := by decide +kernel
theorem dX8_put_26 : decode cX8_put 26 = .ok (.invokevirtual 174, 3) := by decide +kernel
theorem dX8_put_29 : decode cX8_put 29 = .ok (.istore 5, 2) := by decide +kernel
theorem dX8_put_31 : decode cX8_put 31 = .ok (.iload 5, 2) := by decide +kernel
theorem dX8_put_33 : decode cX8_put 33 = .ok (.ifCond .eq 6, 3) := by decide +kernel
theorem dX8_put_36 : decode cX8_put 36 = .ok (.iload 5, 2) := by decide +kernel
theorem dX8_put_38 : decode cX8_put 38 = .ok (.ireturn, 1) := by decide +kernel
theorem dX8_put_39 : decode cX8_put 39 = .ok (.aload_n 0, 1) := by decide +kernel
theorem dX8_put_40 : decode cX8_put 40 = .ok (.getfield 53, 3) := by decide +kernel
theorem dX8_put_43 : decode cX8_put 43 = .ok (.sipush 200, 3) := by decide +kernel
theorem dX8_put_46 : decode cX8_put 46 = .ok (.iload_n 1, 1) := by decide +kernel
theorem dX8_put_47 : decode cX8_put 47 = .ok (.imul, 1) := by decide +kernel
theorem dX8_put_48 : decode cX8_put 48 = .ok (.iload_n 3, 1) := by decide +kernel
theorem dX8_put_49 : decode cX8_put 49 = .ok (.iadd, 1) := by decide +kernel
theorem dX8_put_50 : decode cX8_put 50 = .ok (.iload_n 2, 1) := by decide +kernel
theorem dX8_put_51 : decode cX8_put 51 = .ok (.ifCond .ne 9, 3) := by decide +kernel
theorem dX8_put_54 : decode cX8_put 54 = .ok (.iload 4, 2) := by decide +kernel
theorem dX8_put_56 : decode cX8_put 56 = .ok (.i2b, 1) := by decide +kernel
theorem dX8_put_57 : decode cX8_put 57 = .ok (.goto 19, 3) := by decide +kernel
theorem dX8_put_60 : decode cX8_put 60 = .ok (.iload_n 2, 1) := by decide +kernel
theorem dX8_put_61 : decode cX8_put 61 = .ok (.iconst 1, 1) := by decide +kernel
theorem dX8_put_62 : decode cX8_put 62 = .ok (.if_icmp .ne 11, 3) := by decide +kernel
theorem dX8_put_65 : decode cX8_put 65 = .ok (.iload 4, 2) := by decide +kernel
theorem dX8_put_67 : decode cX8_put 67 = .ok (.ldc 178, 2) := by decide +kernel
theorem dX8_put_69 : decode cX8_put 69 = .ok (.iand, 1) := by decide +kernel
theorem dX8_put_70 : decode cX8_put 70 = .ok (.goto 6, 3) := by decide +kernel
theorem dX8_put_73 : decode cX8_put 73 = .ok (.iload 4, 2) := by decide +kernel
theorem dX8_put_75 : decode cX8_put 75 = .ok (.i2s, 1) := by decide +kernel
theorem dX8_put_76 : decode cX8_put 76 = .ok (.iastore, 1) := by decide +kernel
theorem dX8_put_77 : decode cX8_put 77 = .ok (.iconst 1, 1) := by decide +kernel
theorem dX8_put_78 : decode cX8_put 78 = .ok (.ireturn, 1) := by decide +kernel
theorem dX8_get_0 : decode cX8_get 0 = .ok (.iload_n 1, 1) := by decide +kernel
theorem dX8_get_1 : decode cX8_get 1 = .ok (.invokestatic 168, 3) := by decide +kernel
theorem dX8_get_4 : decode cX8_get 4 = .ok (.ifCond .eq 25, 3) := by decide +kernel
theorem dX8_get_7 : decode cX8_get 7 = .ok (.iload_n 2, 1) := by decide +kernel
theorem dX8_get_8 : decode cX8_get 8 = .ok (.i2l, 1) := by decide +kernel
theorem dX8_get_9 : decode cX8_get 9 = .ok (.lconst 0, 1) := by decide +kernel
theorem dX8_get_10 : decode cX8_get 10 = .ok (.ldc2_w 82, 3) := by decide +kernel
theorem dX8_get_13 : decode cX8_get 13 = .ok (.invokestatic 86, 3) := by decide +kernel
theorem dX8_get_16 : decode cX8_get 16 = .ok (.ifCond .eq 13, 3) := by decide +kernel
theorem dX8_get_19 : decode cX8_get 19 = .ok (.aload_n 0, 1) := by decide +kernel
theorem dX8_get_20 : decode cX8_get 20 = .ok (.iload_n 1, 1) := by decide +kernel
theorem dX8_get_21 : decode cX8_get 21 = .ok (.iload_n 2, 1) := by decide +kernel
theorem dX8_get_22 : decode cX8_get 22 = .ok (.iload_n 3, 1) := by decide +kernel
theorem dX8_get_23 : decode cX8_get 23 = .ok (.invokevirtual 174, 3) := by decide +kernel
theorem dX8_get_26 : decode cX8_get 26 = .ok (.ifCond .eq 6, 3) := by decide +kernel
theorem dX8_get_29 : decode cX8_get 29 = .ok (.ldc 179, 2) := by decide +kernel
theorem dX8_get_31 : decode cX8_get 31 = .ok (.ireturn, 1) := by decide +kernel
theorem dX8_get_32 : decode cX8_get 32 = .ok (.aload_n 0, 1) := by decide +kernel
theorem dX8_get_33 : decode cX8_get 33 = .ok (.getfield 53, 3) := by decide +kernel
theorem dX8_get_36 : decode cX8_get 36 = .ok (.sipush 200, 3) := by decide +kernel
theorem dX8_get_39 : decode cX8_get 39 = .ok (.iload_n 1, 1) := by decide +kernel
theorem dX8_get_40 : decode cX8_get 40 = .ok (.imul, 1) := by decide +kernel
theorem dX8_get_41 : decode cX8_get 41 = .ok (.iload_n 3, 1) := by decide +kernel
theorem dX8_get_42 : decode cX8_get 42 = .ok (.iadd, 1) := by decide +kernel
theorem dX8_get_43 : decode cX8_get 43 = .ok (.iaload, 1) := by decide +kernel
theorem dX8_get_44 : decode cX8_get 44 = .ok (.ireturn, 1) := by decide +kernel
theorem dX8_isWithin_0 : decode cX8_isWithin 0 = .ok (.iload_n 2, 1) := by decide +kernel
theorem dX8_isWithin_1 : decode cX8_isWithin 1 = .ok (.ifCond .lt 27, 3) := by decide +kernel
theorem dX8_isWithin_4 : decode cX8_isWithin 4 = .ok (.iload_n 3, 1) := by decide +kernel
theorem dX8_isWithin_5 : decode cX8_isWithin 5 = .ok (.ifCond .lt 23, 3) := by decide +kernel
theorem dX8_isWithin_8 : decode cX8_isWithin 8 = .ok (.iload_n 2, 1) := by decide +kernel
theorem dX8_isWithin_9 : decode cX8_isWithin 9 = .ok (.i2l, 1) := by decide +kernel
theorem dX8_isWithin_10 : decode cX8_isWithin 10 = .ok (.iload_n 3, 1) := by decide +kernel
theorem dX8_isWithin_11 : decode cX8_isWithin 11 = .ok (.i2l, 1) := by decide +kernel
theorem dX8_isWithin_12 : decode cX8_isWithin 12 = .ok (.ladd, 1) := by decide +kernel
theorem dX8_isWithin_13 : decode cX8_isWithin 13 = .ok (.aload_n 0, 1) := by decide +kernel
theorem dX8_isWithin_14 : decode cX8_isWithin 14 = .ok (.getfield 50, 3) := by decide +kernel
theorem dX8_isWithin_17 : decode cX8_isWithin 17 = .ok (.iload_n 1, 1) := by decide +kernel
theorem dX8_isWithin_18 : decode cX8_isWithin 18 = .ok (.iaload, 1) := by decide +kernel
theorem dX8_isWithin_19 : decode cX8_isWithin 19 = .ok (.i2l, 1) := by decide +kernel
theorem dX8_isWithin_20 : decode cX8_isWithin 20 = .ok (.lcmp, 1) := by decide +kernel
theorem dX8_isWithin_21 : decode cX8_isWithin 21 = .ok (.ifCond .gt 7, 3) := by decide +kernel
theorem dX8_isWithin_24 : decode cX8_isWithin 24 = .ok (.iconst 1, 1) := by decide +kernel
theorem dX8_isWithin_25 : decode cX8_isWithin 25 = .ok (.goto 4, 3) := by decide +kernel
theorem dX8_isWithin_28 : decode cX8_isWithin 28 = .ok (.iconst 0, 1) := by decide +kernel
theorem dX8_isWithin_29 : decode cX8_isWithin 29 = .ok (.ireturn, 1) := by decide +kernel
theorem dX8_copy_0 : decode cX8_copy 0 = .ok (.iload_n 1, 1) := by decide +kernel
theorem dX8_copy_1 : decode cX8_copy 1 = .ok (.invokestatic 168, 3) := by decide +kernel
theorem dX8_copy_4 : decode cX8_copy 4 = .ok (.ifCond .eq 10, 3) := by decide +kernel
theorem dX8_copy_7 : decode cX8_copy 7 = .ok (.iload_n 3, 1) := by decide +kernel
theorem dX8_copy_8 : decode cX8_copy 8 = .ok (.invokestatic 168, 3) := by decide +kernel
theorem dX8_copy_11 : decode cX8_copy 11 = .ok (.ifCond .ne 6, 3) := by decide +kernel
theorem dX8_copy_14 : decode cX8_copy 14 = .ok (.bipush (-2), 2) := by decide +kernel
theorem dX8_copy_16 : decode cX8_copy 16 = .ok (.ireturn, 1) := by decide +kernel
theorem dX8_copy_17 : decode cX8_copy 17 = .ok (.aload_n 0, 1) := by decide +kernel
theorem dX8_copy_18 : decode cX8_copy 18 = .ok (.getfield 47, 3) := by decide +kernel
theorem dX8_copy_21 : decode cX8_copy 21 = .ok (.iload_n 1, 1) := by decide +kernel
theorem dX8_copy_22 : decode cX8_copy 22 = .ok (.iaload, 1) := by decide +kernel
theorem dX8_copy_23 : decode cX8_copy 23 = .ok (.ifCond .lt 12, 3) := by decide +kernel
theorem dX8_copy_26 : decode cX8_copy 26 = .ok (.aload_n 0, 1) := by decide +kernel
theorem dX8_copy_27 : decode cX8_copy 27 = .ok (.getfield 47, 3) := by decide +kernel
theorem dX8_copy_30 : decode cX8_copy 30 = .ok (.iload_n 3, 1) := by decide +kernel
theorem dX8_copy_31 : decode cX8_copy 31 = .ok (.iaload, 1) := by decide +kernel
theorem dX8_copy_32 : decode cX8_copy 32 = .ok (.ifCond .ge 9, 3) := by decide +kernel
theorem dX8_copy_35 : decode cX8_copy 35 = .ok (.aload_n 0, 1) := by decide +kernel
theorem dX8_copy_36 : decode cX8_copy 36 = .ok (.iconst 1, 1) := by decide +kernel
theorem dX8_copy_37 : decode cX8_copy 37 = .ok (.invokevirtual 171, 3) := by decide +kernel
theorem dX8_copy_40 : decode cX8_copy 40 = .ok (.ireturn, 1) := by decide +kernel
theorem dX8_copy_41 : decode cX8_copy 41 = .ok (.aload_n 0, 1) := by decide +kernel
theorem dX8_copy_42 : decode cX8_copy 42 = .ok (.getfield 47, 3) := by decide +kernel
theorem dX8_copy_45 : decode cX8_copy 45 = .ok (.iload_n 1, 1) := by decide +kernel
theorem dX8_copy_46 : decode cX8_copy 46 = .ok (.iaload, 1) := by decide +kernel
theorem dX8_copy_47 : decode cX8_copy 47 = .ok (.aload_n 0, 1) := by decide +kernel
theorem dX8_copy_48 : decode cX8_copy 48 = .ok (.getfield 47, 3) := by decide +kernel
theorem dX8_copy_51 : decode cX8_copy 51 = .ok (.iload_n 3, 1) := by decide +kernel
theorem dX8_copy_52 : decode cX8_copy 52 = .ok (.iaload, 1) := by decide +kernel
theorem dX8_copy_53 : decode cX8_copy 53 = .ok (.if_icmp .eq 9, 3) := by decide +kernel
theorem dX8_copy_56 : decode cX8_copy 56 = .ok (.aload_n 0, 1) := by decide +kernel
theorem dX8_copy_57 : decode cX8_copy 57 = .ok (.iconst 4, 1) := by decide +kernel
theorem dX8_copy_58 : decode cX8_copy 58 = .ok (.invokevirtual 171, 3) := by decide +kernel
theorem dX8_copy_61 : decode cX8_copy 61 = .ok (.ireturn, 1) := by decide +kernel
theorem dX8_copy_62 : decode cX8_copy 62 = .ok (.aload_n 0, 1) := by decide +kernel
theorem dX8_copy_63 : decode cX8_copy 63 = .ok (.iload_n 1, 1) := by decide +kernel
theorem dX8_copy_64 : decode cX8_copy 64 = .ok (.iload_n 2, 1) := by decide +kernel
theorem dX8_copy_65 : decode cX8_copy 65 = .ok (.iload 5, 2) := by decide +kernel
theorem dX8_copy_67 : decode cX8_copy 67 = .ok (.invokevirtual 180, 3) := by decide +kernel
theorem dX8_copy_70 : decode cX8_copy 70 = .ok (.ifCond .eq 15, 3) := by decide +kernel
theorem dX8_copy_73 : decode cX8_copy 73 = .ok (.aload_n 0, 1) := by decide +kernel
theorem dX8_copy_74 : decode cX8_copy 74 = .ok (.iload_n 3, 1) := by decide +kernel
theorem dX8_copy_75 : decode cX8_copy 75 = .ok (.iload 4, 2) := by decide +kernel
theorem dX8_copy_77 : decode cX8_copy 77 = .ok (.iload 5, 2) := by decide +kernel
theorem dX8_copy_79 : decode cX8_copy 79 = .ok (.invokevirtual 180, 3) := by decide +kernel
theorem dX8_copy_82 : decode cX8_copy 82 = .ok (.ifCond .ne 9, 3) := by decide +kernel
theorem dX8_copy_85 : decode cX8_copy 85 = .ok (.aload_n 0, 1) := by decide +kernel
theorem dX8_copy_86 : decode cX8_copy 86 = .ok (.iconst 2, 1) := by decide +kernel
theorem dX8_copy_87 : decode cX8_copy 87 = .ok (.invokevirtual 171, 3) := by decide +kernel
theorem dX8_copy_90 : decode cX8_copy 90 = .ok (.ireturn, 1) := by decide +kernel
theorem dX8_copy_91 : decode cX8_copy 91 = .ok (.iconst 0, 1) := by decide +kernel
theorem dX8_copy_92 : decode cX8_copy 92 = .ok (.istore 6, 2) := by decide +kernel
theorem dX8_copy_94 : decode cX8_copy 94 = .ok (.iload 6, 2) := by decide +kernel
theorem dX8_copy_96 : decode cX8_copy 96 = .ok (.iload 5, 2) := by decide +kernel
theorem dX8_copy_98 : decode cX8_copy 98 = .ok (.if_icmp .ge 31, 3) := by decide +kernel
theorem dX8_copy_101 : decode cX8_copy 101 = .ok (.aload_n 0, 1) := by decide +kernel
theorem dX8_copy_102 : decode cX8_copy 102 = .ok (.getfield 56, 3) := by decide +kernel
theorem dX8_copy_105 : decode cX8_copy 105 = .ok (.iload 6, 2) := by decide +kernel
theorem dX8_copy_107 : decode cX8_copy 107 = .ok (.aload_n 0, 1) := by decide +kernel
theorem dX8_copy_108 : decode cX8_copy 108 = .ok (.getfield 53, 3) := by decide +kernel
theorem dX8_copy_111 : decode cX8_copy 111 = .ok (.sipush 200, 3) := by decide +kernel
theorem dX8_copy_114 : decode cX8_copy 114 = .ok (.iload_n 1, 1) := by decide +kernel
theorem dX8_copy_115 : decode cX8_copy 115 = .ok (.imul, 1) := by decide +kernel
theorem dX8_copy_116 : decode cX8_copy 116 = .ok (.iload_n 2, 1) := by decide +kernel
theorem dX8_copy_117 : decode cX8_copy 117 = .ok (.iadd, 1) := by decide +kernel
theorem dX8_copy_118 : decode cX8_copy 118 = .ok (.iload 6, 2) := by decide +kernel
theorem dX8_copy_120 : decode cX8_copy 120 = .ok (.iadd, 1) := by decide +kernel
theorem dX8_copy_121 : decode cX8_copy 121 = .ok (.iaload, 1) := by decide +kernel
theorem dX8_copy_122 : decode cX8_copy 122 = .ok (.iastore, 1) := by decide +kernel
theorem dX8_copy_123 : decode cX8_copy 123 = .ok (.iinc 6 1, 3) := by decide +kernel
theorem dX8_copy_126 : decode cX8_copy 126 = .ok (.goto (-32), 3) := by decide +kernel
theorem dX8_copy_129 : decode cX8_copy 129 = .ok (.iconst 0, 1) := by decide +kernel
theorem dX8_copy_130 : decode cX8_copy 130 = .ok (.istore 6, 2) := by decide +kernel
theorem dX8_copy_132 : decode cX8_copy 132 = .ok (.iload 6, 2) := by decide +kernel
theorem dX8_copy_134 : decode cX8_copy 134 = .ok (.iload 5, 2) := by decide +kernel
theorem dX8_copy_136 : decode cX8_copy 136 = .ok (.if_icmp .ge 32, 3) := by decide +kernel
theorem dX8_copy_139 : decode cX8_copy 139 = .ok (.aload_n 0, 1) := by decide +kernel
theorem dX8_copy_140 : decode cX8_copy 140 = .ok (.getfield 53, 3) := by decide +kernel
theorem dX8_copy_143 : decode cX8_copy 143 = .ok (.sipush 200, 3) := by decide +kernel
theorem dX8_copy_146 : decode cX8_copy 146 = .ok (.iload_n 3, 1) := by decide +kernel
theorem dX8_copy_147 : decode cX8_copy 147 = .ok (.imul, 1) := by decide +kernel
theorem dX8_copy_148 : decode cX8_copy 148 = .ok (.iload 4, 2) := by decide +kernel
theorem dX8_copy_150 : decode cX8_copy 150 = .ok (.iadd, 1) := by decide +kernel
theorem dX8_copy_151 : decode cX8_copy 151 = .ok (.iload 6, 2) := by decide +kernel
theorem dX8_copy_153 : decode cX8_copy 153 = .ok (.iadd, 1) := by decide +kernel
theorem dX8_copy_154 : decode cX8_copy 154 = .ok (.aload_n 0, 1) := by decide +kernel
theorem dX8_copy_155 : decode cX8_copy 155 = .ok (.getfield 56, 3) := by decide +kernel
theorem dX8_copy_158 : decode cX8_copy 158 = .ok (.iload 6, 2) := by decide +kernel
theorem dX8_copy_160 : decode cX8_copy 160 = .ok (.iaload, 1) := by decide +kernel
theorem dX8_copy_161 : decode cX8_copy 161 = .ok (.iastore, 1) := by decide +kernel
theorem dX8_copy_162 : decode cX8_copy 162 = .ok (.iinc 6 1, 3) := by decide +kernel
theorem dX8_copy_165 : decode cX8_copy 165 = .ok (.goto (-33), 3) := by decide +kernel
theorem dX8_copy_168 : decode cX8_copy 168 = .ok (.iconst 1, 1) := by decide +kernel
theorem dX8_copy_169 : decode cX8_copy 169 = .ok (.ireturn, 1) := by decide +kernel
theorem dX8_print_0 : decode cX8_print 0 = .ok (.iload_n 1, 1) := by decide +kernel
theorem dX8_print_1 : decode cX8_print 1 = .ok (.invokestatic 168, 3) := by decide +kernel
theorem dX8_print_4 : decode cX8_print 4 = .ok (.ifCond .eq 24, 3) := by decide +kernel
theorem dX8_print_7 : decode cX8_print 7 = .ok (.iload_n 3, 1) := by decide +kernel
theorem dX8_print_8 : decode cX8_print 8 = .ok (.i2l, 1) := by decide +kernel
theorem dX8_print_9 : decode cX8_print 9 = .ok (.lconst 0, 1) := by decide +kernel
theorem dX8_print_10 : decode cX8_print 10 = .ok (.aload_n 0, 1) := by decide +kernel
theorem dX8_print_11 : decode cX8_print 11 = .ok (.getfield 99, 3) := by decide +kernel
theorem dX8_print_14 : decode cX8_print 14 = .ok (.iconst 1, 1) := by decide +kernel
theorem dX8_print_15 : decode cX8_print 15 = .ok (.isub, 1) := by decide +kernel
theorem dX8_print_16 : decode cX8_print 16 = .ok (.i2l, 1) := by decide +kernel
theorem dX8_print_17 : decode cX8_print 17 = .ok (.invokestatic 86, 3) := by decide +kernel
theorem dX8_print_20 : decode cX8_print 20 = .ok (.ifCond .eq 8, 3) := by decide +kernel
theorem dX8_print_23 : decode cX8_print 23 = .ok (.iload 4, 2) := by decide +kernel
theorem dX8_print_25 : decode cX8_print 25 = .ok (.ifCond .ge 6, 3) := by decide +kernel
theorem dX8_print_28 : decode cX8_print 28 = .ok (.bipush (-2), 2) := by decide +kernel
theorem dX8_print_30 : decode cX8_print 30 = .ok (.ireturn, 1) := by decide +kernel
theorem dX8_print_31 : decode cX8_print 31 = .ok (.aload_n 0, 1) := by decide +kernel
theorem dX8_print_32 : decode cX8_print 32 = .ok (.getfield 112, 3) := by decide +kernel
theorem dX8_print_35 : decode cX8_print 35 = .ok (.iconst (-1), 1) := by decide +kernel
theorem dX8_print_36 : decode cX8_print 36 = .ok (.if_icmp .ne 6, 3) := by decide +kernel
theorem dX8_print_39 : decode cX8_print 39 = .ok (.bipush (-3), 2) := by decide +kernel
theorem dX8_print_41 : decode cX8_print 41 = .ok (.ireturn, 1) := by decide +kernel
theorem dX8_print_42 : decode cX8_print 42 = .ok (.aload_n 0, 1) := by decide +kernel
theorem dX8_print_43 : decode cX8_print 43 = .ok (.getfield 47, 3) := by decide +kernel
theorem dX8_print_46 : decode cX8_print 46 = .ok (.iload_n 1, 1) := by decide +kernel
theorem dX8_print_47 : decode cX8_print 47 = .ok (.iaload, 1) := by decide +kernel
theorem dX8_print_48 : decode cX8_print 48 = .ok (.ifCond .ge 9, 3) := by decide +kernel
theorem dX8_print_51 : decode cX8_print 51 = .ok (.aload_n 0, 1) := by decide +kernel
theorem dX8_print_52 : decode cX8_print 52 = .ok (.iconst 1, 1) := by decide +kernel
theorem dX8_print_53 : decode cX8_print 53 = .ok (.invokevirtual 171, 3) := by decide +kernel
theorem dX8_print_56 : decode cX8_print 56 = .ok (.ireturn, 1) := by decide +kernel
theorem dX8_print_57 : decode cX8_print 57 = .ok (.aload_n 0, 1) := by decide +kernel
theorem dX8_print_58 : decode cX8_print 58 = .ok (.iload_n 1, 1) := by decide +kernel
theorem dX8_print_59 : decode cX8_print 59 = .ok (.iload_n 2, 1) := by decide +kernel
theorem dX8_print_60 : decode cX8_print 60 = .ok (.iload 4, 2) := by decide +kernel
theorem dX8_print_62 : decode cX8_print 62 = .ok (.invokevirtual 180, 3) := by decide +kernel
theorem dX8_print_65 : decode cX8_print 65 = .ok (.ifCond .ne 9, 3) := by decide +kernel
theorem dX8_print_68 : decode cX8_print 68 = .ok (.aload_n 0, 1) := by decide +kernel
theorem dX8_print_69 : decode cX8_print 69 = .ok (.iconst 2, 1) := by decide +kernel
theorem dX8_print_70 : decode cX8_print 70 = .ok (.invokevirtual 171, 3) := by decide +kernel
theorem dX8_print_73 : decode cX8_print 73 = .ok (.ireturn, 1) := by decide +kernel
theorem dX8_print_74 : decode cX8_print 74 = .ok (.iconst 0, 1) := by decide +kernel
theorem dX8_print_75 : decode cX8_print 75 = .ok (.istore 5, 2) := by decide +kernel
theorem dX8_print_77 : decode cX8_print 77 = .ok (.iload 5, 2) := by decide +kernel
theorem dX8_print_79 : decode cX8_print 79 = .ok (.iload 4, 2) := by decide +kernel
theorem dX8_print_81 : decode cX8_print 81 = .ok (.if_icmp .ge 38, 3) := by decide +kernel
theorem dX8_print_84 : decode cX8_print 84 = .ok (.aload_n 0, 1) := by decide +kernel
theorem dX8_print_85 : decode cX8_print 85 = .ok (.getfield 53, 3) := by decide +kernel
theorem dX8_print_88 : decode cX8_print 88 = .ok (.sipush 200, 3) := by decide +kernel
theorem dX8_print_91 : decode cX8_print 91 = .ok (.iload_n 1, 1) := by decide +kernel
theorem dX8_print_92 : decode cX8_print 92 = .ok (.imul, 1) := by decide +kernel
theorem dX8_print_93 : decode cX8_print 93 = .ok (.iload_n 2, 1) := by decide +kernel
theorem dX8_print_94 : decode cX8_print 94 = .ok (.iadd, 1) := by decide +kernel
theorem dX8_print_95 : decode cX8_print 95 = .ok (.iload 5, 2) := by decide +kernel
theorem dX8_print_97 : decode cX8_print 97 = .ok (.iadd, 1) := by decide +kernel
theorem dX8_print_98 : decode cX8_print 98 = .ok (.aload_n 0, 1) := by decide +kernel
theorem dX8_print_99 : decode cX8_print 99 = .ok (.getfield 41, 3) := by decide +kernel
theorem dX8_print_102 : decode cX8_print 102 = .ok (.iload_n 3, 1) := by decide +kernel
theorem dX8_print_103 : decode cX8_print 103 = .ok (.iload 5, 2) := by decide +kernel
theorem dX8_print_105 : decode cX8_print 105 = .ok (.iadd, 1) := by decide +kernel
theorem dX8_print_106 : decode cX8_print 106 = .ok (.aload_n 0, 1) := by decide +kernel
theorem dX8_print_107 : decode cX8_print 107 = .ok (.getfield 99, 3) := by decide +kernel
theorem dX8_print_110 : decode cX8_print 110 = .ok (.irem, 1) := by decide +kernel
theorem dX8_print_111 : decode cX8_print 111 = .ok (.iaload, 1) := by decide +kernel
theorem dX8_print_112 : decode cX8_print 112 = .ok (.iastore, 1) := by decide +kernel
theorem dX8_print_113 : decode cX8_print 113 = .ok (.iinc 5 1, 3) := by decide +kernel
theorem dX8_print_116 : decode cX8_print 116 = .ok (.goto (-39), 3) := by decide +kernel
theorem dX8_print_119 : decode cX8_print 119 = .ok (.iload 4, 2) := by decide +kernel
theorem dX8_print_121 : decode cX8_print 121 = .ok (.ireturn, 1) := by decide +kernel
theorem dX8_find_0 : decode cX8_find 0 = .ok (.iload_n 1, 1) := by decide +kernel
theorem dX8_find_1 : decode cX8_find 1 = .ok (.invokestatic 168, 3) := by decide +kernel
theorem dX8_find_4 : decode cX8_find 4 = .ok (.ifCond .eq 28, 3) := by decide +kernel
theorem dX8_find_7 : decode cX8_find 7 = .ok (.iload_n 3, 1) := by decide +kernel
theorem dX8_find_8 : decode cX8_find 8 = .ok (.i2l, 1) := by decide +kernel
theorem dX8_find_9 : decode cX8_find 9 = .ok (.lconst 1, 1) := by decide +kernel
theorem dX8_find_10 : decode cX8_find 10 = .ok (.ldc2_w 184, 3) := by decide +kernel
theorem dX8_find_13 : decode cX8_find 13 = .ok (.invokestatic 86, 3) := by decide +kernel
theorem dX8_find_16 : decode cX8_find 16 = .ok (.ifCond .eq 16, 3) := by decide +kernel
theorem dX8_find_19 : decode cX8_find 19 = .ok (.iload 4, 2) := by decide +kernel
theorem dX8_find_21 : decode cX8_find 21 = .ok (.i2l, 1) := by decide +kernel
theorem dX8_find_22 : decode cX8_find 22 = .ok (.lconst 0, 1) := by decide +kernel
theorem dX8_find_23 : decode cX8_find 23 = .ok (.ldc2_w 184, 3) := by decide +kernel
theorem dX8_find_26 : decode cX8_find 26 = .ok (.invokestatic 86, 3) := by decide +kernel
theorem dX8_find_29 : decode cX8_find 29 = .ok (.ifCond .ne 6, 3) := by decide +kernel
theorem dX8_find_32 : decode cX8_find 32 = .ok (.bipush (-2), 2) := by decide +kernel
theorem dX8_find_34 : decode cX8_find 34 = .ok (.ireturn, 1) := by decide +kernel
theorem dX8_find_35 : decode cX8_find 35 = .ok (.aload_n 0, 1) := by decide +kernel
theorem dX8_find_36 : decode cX8_find 36 = .ok (.getfield 112, 3) := by decide +kernel
theorem dX8_find_39 : decode cX8_find 39 = .ok (.iconst (-1), 1) := by decide +kernel
theorem dX8_find_40 : decode cX8_find 40 = .ok (.if_icmp .ne 6, 3) := by decide +kernel
theorem dX8_find_43 : decode cX8_find 43 = .ok (.bipush (-3), 2) := by decide +kernel
theorem dX8_find_45 : decode cX8_find 45 = .ok (.ireturn, 1) := by decide +kernel
theorem dX8_find_46 : decode cX8_find 46 = .ok (.aload_n 0, 1) := by decide +kernel
theorem dX8_find_47 : decode cX8_find 47 = .ok (.getfield 47, 3) := by decide +kernel
theorem dX8_find_50 : decode cX8_find 50 = .ok (.iload_n 1, 1) := by decide +kernel
theorem dX8_find_51 : decode cX8_find 51 = .ok (.iaload, 1) := by decide +kernel
theorem dX8_find_52 : decode cX8_find 52 = .ok (.ifCond .ge 9, 3) := by decide +kernel
theorem dX8_find_55 : decode cX8_find 55 = .ok (.aload_n 0, 1) := by decide +kernel
theorem dX8_find_56 : decode cX8_find 56 = .ok (.iconst 1, 1) := by decide +kernel
theorem dX8_find_57 : decode cX8_find 57 = .ok (.invokevirtual 171, 3) := by decide +kernel
theorem dX8_find_60 : decode cX8_find 60 = .ok (.ireturn, 1) := by decide +kernel
theorem dX8_find_61 : decode cX8_find 61 = .ok (.aload_n 0, 1) := by decide +kernel
theorem dX8_find_62 : decode cX8_find 62 = .ok (.iload_n 1, 1) := by decide +kernel
theorem dX8_find_63 : decode cX8_find 63 = .ok (.iload_n 2, 1) := by decide +kernel
theorem dX8_find_64 : decode cX8_find 64 = .ok (.iload_n 3, 1) := by decide +kernel
theorem dX8_find_65 : decode cX8_find 65 = .ok (.invokevirtual 180, 3) := by decide +kernel
theorem dX8_find_68 : decode cX8_find 68 = .ok (.ifCond .ne 9, 3) := by decide +kernel
theorem dX8_find_71 : decode cX8_find 71 = .ok (.aload_n 0, 1) := by decide +kernel
theorem dX8_find_72 : decode cX8_find 72 = .ok (.iconst 2, 1) := by decide +kernel
theorem dX8_find_73 : decode cX8_find 73 = .ok (.invokevirtual 171, 3) := by decide +kernel
theorem dX8_find_76 : decode cX8_find 76 = .ok (.ireturn, 1) := by decide +kernel
theorem dX8_find_77 : decode cX8_find 77 = .ok (.iconst 0, 1) := by decide +kernel
theorem dX8_find_78 : decode cX8_find 78 = .ok (.istore 5, 2) := by decide +kernel
theorem dX8_find_80 : decode cX8_find 80 = .ok (.iconst 0, 1) := by decide +kernel
theorem dX8_find_81 : decode cX8_find 81 = .ok (.istore 6, 2) := by decide +kernel
theorem dX8_find_83 : decode cX8_find 83 = .ok (.iload 6, 2) := by decide +kernel
theorem dX8_find_85 : decode cX8_find 85 = .ok (.aload_n 0, 1) := by decide +kernel
theorem dX8_find_86 : decode cX8_find 86 = .ok (.getfield 99, 3) := by decide +kernel
theorem dX8_find_89 : decode cX8_find 89 = .ok (.if_icmp .ge 119, 3) := by decide +kernel
theorem dX8_find_92 : decode cX8_find 92 = .ok (.iconst 0, 1) := by decide +kernel
theorem dX8_find_93 : decode cX8_find 93 = .ok (.istore 7, 2) := by decide +kernel
theorem dX8_find_95 : decode cX8_find 95 = .ok (.iconst 0, 1) := by decide +kernel
theorem dX8_find_96 : decode cX8_find 96 = .ok (.istore 8, 2) := by decide +kernel
theorem dX8_find_98 : decode cX8_find 98 = .ok (.iload 8, 2) := by decide +kernel
theorem dX8_find_100 : decode cX8_find 100 = .ok (.iload_n 3, 1) := by decide +kernel
theorem dX8_find_101 : decode cX8_find 101 = .ok (.if_icmp .ge 73, 3) := by decide +kernel
theorem dX8_find_104 : decode cX8_find 104 = .ok (.aload_n 0, 1) := by decide +kernel
theorem dX8_find_105 : decode cX8_find 105 = .ok (.getfield 53, 3) := by decide +kernel
theorem dX8_find_108 : decode cX8_find 108 = .ok (.sipush 200, 3) := by decide +kernel
theorem dX8_find_111 : decode cX8_find 111 = .ok (.iload_n 1, 1) := by decide +kernel
theorem dX8_find_112 : decode cX8_find 112 = .ok (.imul, 1) := by decide +kernel
theorem dX8_find_113 : decode cX8_find 113 = .ok (.iload_n 2, 1) := by decide +kernel
theorem dX8_find_114 : decode cX8_find 114 = .ok (.iadd, 1) := by decide +kernel
theorem dX8_find_115 : decode cX8_find 115 = .ok (.iload 8, 2) := by decide +kernel
theorem dX8_find_117 : decode cX8_find 117 = .ok (.iadd, 1) := by decide +kernel
theorem dX8_find_118 : decode cX8_find 118 = .ok (.iaload, 1) := by decide +kernel
theorem dX8_find_119 : decode cX8_find 119 = .ok (.istore 9, 2) := by decide +kernel
theorem dX8_find_121 : decode cX8_find 121 = .ok (.iload 7, 2) := by decide +kernel
theorem dX8_find_123 : decode cX8_find 123 = .ok (.iload 9, 2) := by decide +kernel
theorem dX8_find_125 : decode cX8_find 125 = .ok (.i2l, 1) := by decide +kernel
theorem dX8_find_126 : decode cX8_find 126 = .ok (.lconst 0, 1) := by decide +kernel
theorem dX8_find_127 : decode cX8_find 127 = .ok (.aload_n 0, 1) := by decide +kernel
theorem dX8_find_128 : decode cX8_find 128 = .ok (.getfield 92, 3) := by decide +kernel
theorem dX8_find_131 : decode cX8_find 131 = .ok (.iconst 1, 1) := by decide +kernel
theorem dX8_find_132 : decode cX8_find 132 = .ok (.isub, 1) := by decide +kernel
theorem dX8_find_133 : decode cX8_find 133 = .ok (.i2l, 1) := by decide +kernel
theorem dX8_find_134 : decode cX8_find 134 = .ok (.invokestatic 86, 3) := by decide +kernel
theorem dX8_find_137 : decode cX8_find 137 = .ok (.ifCond .eq 27, 3) := by decide +kernel
theorem dX8_find_140 : decode cX8_find 140 = .ok (.iload 9, 2) := by decide +kernel
theorem dX8_find_142 : decode cX8_find 142 = .ok (.aload_n 0, 1) := by decide +kernel
theorem dX8_find_143 : decode cX8_find 143 = .ok (.getfield 41, 3) := by decide +kernel
theorem dX8_find_146 : decode cX8_find 146 = .ok (.iload 6, 2) := by decide +kernel
theorem dX8_find_148 : decode cX8_find 148 = .ok (.iload 8, 2) := by decide +kernel
theorem dX8_find_150 : decode cX8_find 150 = .ok (.iadd, 1) := by decide +kernel
theorem dX8_find_151 : decode cX8_find 151 = .ok (.aload_n 0, 1) := by decide +kernel
theorem dX8_find_152 : decode cX8_find 152 = .ok (.getfield 99, 3) := by decide +kernel
theorem dX8_find_155 : decode cX8_find 155 = .ok (.irem, 1) := by decide +kernel
theorem dX8_find_156 : decode cX8_find 156 = .ok (.iaload, 1) := by decide +kernel
theorem dX8_find_157 : decode cX8_find 157 = .ok (.if_icmp .eq 7, 3) := by decide +kernel
theorem dX8_find_160 : decode cX8_find 160 = .ok (.iconst 1, 1) := by decide +kernel
theorem dX8_find_161 : decode cX8_find 161 = .ok (.goto 4, 3) := by decide +kernel
theorem dX8_find_164 : decode cX8_find 164 = .ok (.iconst 0, 1) := by decide +kernel
theorem dX8_find_165 : decode cX8_find 165 = .ok (.iadd, 1) := by decide +kernel
theorem dX8_find_166 : decode cX8_find 166 = .ok (.istore 7, 2) := by decide +kernel
theorem dX8_find_168 : decode cX8_find 168 = .ok (.iinc 8 1, 3) := by decide +kernel
theorem dX8_find_171 : decode cX8_find 171 = .ok (.goto (-73), 3) := by decide +kernel
theorem dX8_find_174 : decode cX8_find 174 = .ok (.iload 7, 2) := by decide +kernel
theorem dX8_find_176 : decode cX8_find 176 = .ok (.iload 4, 2) := by decide +kernel
theorem dX8_find_178 : decode cX8_find 178 = .ok (.if_icmp .gt 24, 3) := by decide +kernel
theorem dX8_find_181 : decode cX8_find 181 = .ok (.aload_n 0, 1) := by decide +kernel
theorem dX8_find_182 : decode cX8_find 182 = .ok (.iload 5, 2) := by decide +kernel
theorem dX8_find_184 : decode cX8_find 184 = .ok (.ifCond .ne 8, 3) := by decide +kernel
theorem dX8_find_187 : decode cX8_find 187 = .ok (.iload 6, 2) := by decide +kernel
theorem dX8_find_189 : decode cX8_find 189 = .ok (.goto 7, 3) := by decide +kernel
theorem dX8_find_192 : decode cX8_find 192 = .ok (.aload_n 0, 1) := by decide +kernel
theorem dX8_find_193 : decode cX8_find 193 = .ok (.getfield 115, 3) := by decide +kernel
theorem dX8_find_196 : decode cX8_find 196 = .ok (.putfield 115, 3) := by decide +kernel
theorem dX8_find_199 : decode cX8_find 199 = .ok (.iinc 5 1, 3) := by decide +kernel
theorem dX8_find_202 : decode cX8_find 202 = .ok (.iinc 6 1, 3) := by decide +kernel
theorem dX8_find_205 : decode cX8_find 205 = .ok (.goto (-122), 3) := by decide +kernel
theorem dX8_find_208 : decode cX8_find 208 = .ok (.iload 5, 2) := by decide +kernel
theorem dX8_find_210 : decode cX8_find 210 = .ok (.ireturn, 1) := by decide +kernel
theorem dX8_found_0 : decode cX8_found 0 = .ok (.aload_n 0, 1) := by decide +kernel
theorem dX8_found_1 : decode cX8_found 1 = .ok (.getfield 115, 3) := by decide +kernel
theorem dX8_found_4 : decode cX8_found 4 = .ok (.ireturn, 1) := by decide +kernel
theorem dX8_noLetters_0 : decode cX8_noLetters 0 = .ok (.aload_n 0, 1) := by decide +kernel
theorem dX8_noLetters_1 : decode cX8_noLetters 1 = .ok (.getfield 47, 3) := by decide +kernel
theorem dX8_noLetters_4 : decode cX8_noLetters 4 = .ok (.iload_n 1, 1) := by decide +kernel
theorem dX8_noLetters_5 : decode cX8_noLetters 5 = .ok (.iaload, 1) := by decide +kernel
theorem dX8_noLetters_6 : decode cX8_noLetters 6 = .ok (.ifCond .ge 9, 3) := by decide +kernel
theorem dX8_noLetters_9 : decode cX8_noLetters 9 = .ok (.aload_n 0, 1) := by decide +kernel
theorem dX8_noLetters_10 : decode cX8_noLetters 10 = .ok (.iconst 1, 1) := by decide +kernel
theorem dX8_noLetters_11 : decode cX8_noLetters 11 = .ok (.invokevirtual 171, 3) := by decide +kernel
theorem dX8_noLetters_14 : decode cX8_noLetters 14 = .ok (.ireturn, 1) := by decide +kernel
theorem dX8_noLetters_15 : decode cX8_noLetters 15 = .ok (.iconst 1, 1) := by decide +kernel
theorem dX8_noLetters_16 : decode cX8_noLetters 16 = .ok (.istore_n 2, 1) := by decide +kernel
theorem dX8_noLetters_17 : decode cX8_noLetters 17 = .ok (.iconst 0, 1) := by decide +kernel
theorem dX8_noLetters_18 : decode cX8_noLetters 18 = .ok (.istore_n 3, 1) := by decide +kernel
theorem dX8_noLetters_19 : decode cX8_noLetters 19 = .ok (.iload_n 3, 1) := by decide +kernel
theorem dX8_noLetters_20 : decode cX8_noLetters 20 = .ok (.aload_n 0, 1) := by decide +kernel
theorem dX8_noLetters_21 : decode cX8_noLetters 21 = .ok (.getfield 50, 3) := by decide +kernel
theorem dX8_noLetters_24 : decode cX8_noLetters 24 = .ok (.iload_n 1, 1) := by decide +kernel
theorem dX8_noLetters_25 : decode cX8_noLetters 25 = .ok (.iaload, 1) := by decide +kernel
theorem dX8_noLetters_26 : decode cX8_noLetters 26 = .ok (.if_icmp .ge 46, 3) := by decide +kernel
theorem dX8_noLetters_29 : decode cX8_noLetters 29 = .ok (.iload_n 2, 1) := by decide +kernel
theorem dX8_noLetters_30 : decode cX8_noLetters 30 = .ok (.ifCond .eq 34, 3) := by decide +kernel
theorem dX8_noLetters_33 : decode cX8_noLetters 33 = .ok (.aload_n 0, 1) := by decide +kernel
theorem dX8_noLetters_34 : decode cX8_noLetters 34 = .ok (.getfield 53, 3) := by decide +kernel
theorem dX8_noLetters_37 : decode cX8_noLetters 37 = .ok (.sipush 200, 3) := by decide +kernel
theorem dX8_noLetters_40 : decode cX8_noLetters 40 = .ok (.iload_n 1, 1) := by decide +kernel
theorem dX8_noLetters_41 : decode cX8_noLetters 41 = .ok (.imul, 1) := by decide +kernel
theorem dX8_noLetters_42 : decode cX8_noLetters 42 = .ok (.iload_n 3, 1) := by decide +kernel
theorem dX8_noLetters_43 : decode cX8_noLetters 43 = .ok (.iadd, 1) := by decide +kernel
theorem dX8_noLetters_44 : decode cX8_noLetters 44 = .ok (.iaload, 1) := by decide +kernel
theorem dX8_noLetters_45 : decode cX8_noLetters 45 = .ok (.i2l, 1) := by decide +kernel
theorem dX8_noLetters_46 : decode cX8_noLetters 46 = .ok (.lconst 0, 1) := by decide +kernel
theorem dX8_noLetters_47 : decode cX8_noLetters 47 = .ok (.aload_n 0, 1) := by decide +kernel
theorem dX8_noLetters_48 : decode cX8_noLetters 48 = .ok (.getfield 92, 3) := by decide +kernel
theorem dX8_noLetters_51 : decode cX8_noLetters 51 = .ok (.iconst 1, 1) := by decide +kernel
theorem dX8_noLetters_52 : decode cX8_noLetters 52 = .ok (.isub, 1) := by decide +kernel
theorem dX8_noLetters_53 : decode cX8_noLetters 53 = .ok (.i2l, 1) := by decide +kernel
theorem dX8_noLetters_54 : decode cX8_noLetters 54 = .ok (.invokestatic 86, 3) := by decide +kernel
theorem dX8_noLetters_57 : decode cX8_noLetters 57 = .ok (.ifCond .eq 7, 3) := by decide +kernel
theorem dX8_noLetters_60 : decode cX8_noLetters 60 = .ok (.iconst 1, 1) := by decide +kernel
theorem dX8_noLetters_61 : decode cX8_noLetters 61 = .ok (.goto 4, 3) := by decide +kernel
theorem dX8_noLetters_64 : decode cX8_noLetters 64 = .ok (.iconst 0, 1) := by decide +kernel
theorem dX8_noLetters_65 : decode cX8_noLetters 65 = .ok (.istore_n 2, 1) := by decide +kernel
theorem dX8_noLetters_66 : decode cX8_noLetters 66 = .ok (.iinc 3 1, 3) := by decide +kernel
theorem dX8_noLetters_69 : decode cX8_noLetters 69 = .ok (.goto (-50), 3) := by decide +kernel
theorem dX8_noLetters_72 : decode cX8_noLetters 72 = .ok (.iload_n 2, 1) := by decide +kernel
theorem dX8_noLetters_73 : decode cX8_noLetters 73 = .ok (.ifCond .eq 7, 3) := by decide +kernel
theorem dX8_noLetters_76 : decode cX8_noLetters 76 = .ok (.iconst 0, 1) := by decide +kernel
theorem dX8_noLetters_77 : decode cX8_noLetters 77 = .ok (.goto 5, 3) := by decide +kernel
theorem dX8_noLetters_80 : decode cX8_noLetters 80 = .ok (.bipush (-3), 2) := by decide +kernel
theorem dX8_noLetters_82 : decode cX8_noLetters 82 = .ok (.ireturn, 1) := by decide +kernel
theorem dX8_twice_0 : decode cX8_twice 0 = .ok (.iload_n 1, 1) := by decide +kernel
theorem dX8_twice_1 : decode cX8_twice 1 = .ok (.invokestatic 168, 3) := by decide +kernel
theorem dX8_twice_4 : decode cX8_twice 4 = .ok (.ifCond .ne 6, 3) := by decide +kernel
theorem dX8_twice_7 : decode cX8_twice 7 = .ok (.bipush (-2), 2) := by decide +kernel
theorem dX8_twice_9 : decode cX8_twice 9 = .ok (.ireturn, 1) := by decide +kernel
theorem dX8_twice_10 : decode cX8_twice 10 = .ok (.aload_n 0, 1) := by decide +kernel
theorem dX8_twice_11 : decode cX8_twice 11 = .ok (.iload_n 1, 1) := by decide +kernel
theorem dX8_twice_12 : decode cX8_twice 12 = .ok (.invokevirtual 186, 3) := by decide +kernel
theorem dX8_twice_15 : decode cX8_twice 15 = .ok (.istore_n 2, 1) := by decide +kernel
theorem dX8_twice_16 : decode cX8_twice 16 = .ok (.iload_n 2, 1) := by decide +kernel
theorem dX8_twice_17 : decode cX8_twice 17 = .ok (.ifCond .eq 5, 3) := by decide +kernel
theorem dX8_twice_20 : decode cX8_twice 20 = .ok (.iload_n 2, 1) := by decide +kernel
theorem dX8_twice_21 : decode cX8_twice 21 = .ok (.ireturn, 1) := by decide +kernel
theorem dX8_twice_22 : decode cX8_twice 22 = .ok (.aload_n 0, 1) := by decide +kernel
theorem dX8_twice_23 : decode cX8_twice 23 = .ok (.getfield 50, 3) := by decide +kernel
theorem dX8_twice_26 : decode cX8_twice 26 = .ok (.iload_n 1, 1) := by decide +kernel
theorem dX8_twice_27 : decode cX8_twice 27 = .ok (.iaload, 1) := by decide +kernel
theorem dX8_twice_28 : decode cX8_twice 28 = .ok (.ifCond .ne 6, 3) := by decide +kernel
theorem dX8_twice_31 : decode cX8_twice 31 = .ok (.bipush (-3), 2) := by decide +kernel
theorem dX8_twice_33 : decode cX8_twice 33 = .ok (.ireturn, 1) := by decide +kernel
theorem dX8_twice_34 : decode cX8_twice 34 = .ok (.iconst 1, 1) := by decide +kernel
theorem dX8_twice_35 : decode cX8_twice 35 = .ok (.istore_n 3, 1) := by decide +kernel
theorem dX8_twice_36 : decode cX8_twice 36 = .ok (.iload_n 3, 1) := by decide +kernel
theorem dX8_twice_37 : decode cX8_twice 37 = .ok (.aload_n 0, 1) := by decide +kernel
theorem dX8_twice_38 : decode cX8_twice 38 = .ok (.getfield 50, 3) := by decide +kernel
theorem dX8_twice_41 : decode cX8_twice 41 = .ok (.iload_n 1, 1) := by decide +kernel
theorem dX8_twice_42 : decode cX8_twice 42 = .ok (.iaload, 1) := by decide +kernel
theorem dX8_twice_43 : decode cX8_twice 43 = .ok (.if_icmp .ge 112, 3) := by decide +kernel
theorem dX8_twice_46 : decode cX8_twice 46 = .ok (.iconst 0, 1) := by decide +kernel
theorem dX8_twice_47 : decode cX8_twice 47 = .ok (.istore 4, 2) := by decide +kernel
theorem dX8_twice_49 : decode cX8_twice 49 = .ok (.iload 4, 2) := by decide +kernel
theorem dX8_twice_51 : decode cX8_twice 51 = .ok (.iload_n 3, 1) := by decide +kernel
theorem dX8_twice_52 : decode cX8_twice 52 = .ok (.if_icmp .ge 97, 3) := by decide +kernel
theorem dX8_twice_55 : decode cX8_twice 55 = .ok (.iconst 1, 1) := by decide +kernel
theorem dX8_twice_56 : decode cX8_twice 56 = .ok (.istore 5, 2) := by decide +kernel
theorem dX8_twice_58 : decode cX8_twice 58 = .ok (.iconst 0, 1) := by decide +kernel
theorem dX8_twice_59 : decode cX8_twice 59 = .ok (.istore 6, 2) := by decide +kernel
theorem dX8_twice_61 : decode cX8_twice 61 = .ok (.iload 6, 2) := by decide +kernel
theorem dX8_twice_63 : decode cX8_twice 63 = .ok (.aload_n 0, 1) := by decide +kernel
theorem dX8_twice_64 : decode cX8_twice 64 = .ok (.getfield 96, 3) := by decide +kernel
theorem dX8_twice_67 : decode cX8_twice 67 = .ok (.if_icmp .ge 69, 3) := by decide +kernel
theorem dX8_twice_70 : decode cX8_twice 70 = .ok (.iload 5, 2) := by decide +kernel
theorem dX8_twice_72 : decode cX8_twice 72 = .ok (.ifCond .eq 64, 3) := by decide +kernel
theorem dX8_twice_75 : decode cX8_twice 75 = .ok (.aload_n 0, 1) := by decide +kernel
theorem dX8_twice_76 : decode cX8_twice 76 = .ok (.getfield 53, 3) := by decide +kernel
theorem dX8_twice_79 : decode cX8_twice 79 = .ok (.sipush 200, 3) := by decide +kernel
theorem dX8_twice_82 : decode cX8_twice 82 = .ok (.iload_n 1, 1) := by decide +kernel
theorem dX8_twice_83 : decode cX8_twice 83 = .ok (.imul, 1) := by decide +kernel
theorem dX8_twice_84 : decode cX8_twice 84 = .ok (.iload_n 3, 1) := by decide +kernel
theorem dX8_twice_85 : decode cX8_twice 85 = .ok (.iload 6, 2) := by decide +kernel
theorem dX8_twice_87 : decode cX8_twice 87 = .ok (.iadd, 1) := by decide +kernel
theorem dX8_twice_88 : decode cX8_twice 88 = .ok (.aload_n 0, 1) := by decide +kernel
theorem dX8_twice_89 : decode cX8_twice 89 = .ok (.getfield 50, 3) := by decide +kernel
theorem dX8_twice_92 : decode cX8_twice 92 = .ok (.iload_n 1, 1) := by decide +kernel
theorem dX8_twice_93 : decode cX8_twice 93 = .ok (.iaload, 1) := by decide +kernel
theorem dX8_twice_94 : decode cX8_twice 94 = .ok (.irem, 1) := by decide +kernel
theorem dX8_twice_95 : decode cX8_twice 95 = .ok (.iadd, 1) := by decide +kernel
theorem dX8_twice_96 : decode cX8_twice 96 = .ok (.iaload, 1) := by decide +kernel
theorem dX8_twice_97 : decode cX8_twice 97 = .ok (.aload_n 0, 1) := by decide +kernel
theorem dX8_twice_98 : decode cX8_twice 98 = .ok (.getfield 53, 3) := by decide +kernel
theorem dX8_twice_101 : decode cX8_twice 101 = .ok (.sipush 200, 3) := by decide +kernel
theorem dX8_twice_104 : decode cX8_twice 104 = .ok (.iload_n 1, 1) := by decide +kernel
theorem dX8_twice_105 : decode cX8_twice 105 = .ok (.imul, 1) := by decide +kernel
theorem dX8_twice_106 : decode cX8_twice 106 = .ok (.iload 4, 2) := by decide +kernel
theorem dX8_twice_108 : decode cX8_twice 108 = .ok (.iload 6, 2) := by decide +kernel
theorem dX8_twice_110 : decode cX8_twice 110 = .ok (.iadd, 1) := by decide +kernel
theorem dX8_twice_111 : decode cX8_twice 111 = .ok (.aload_n 0, 1) := by decide +kernel
theorem dX8_twice_112 : decode cX8_twice 112 = .ok (.getfield 50, 3) := by decide +kernel
theorem dX8_twice_115 : decode cX8_twice 115 = .ok (.iload_n 1, 1) := by decide +kernel
theorem dX8_twice_116 : decode cX8_twice 116 = .ok (.iaload, 1) := by decide +kernel
theorem dX8_twice_117 : decode cX8_twice 117 = .ok (.irem, 1) := by decide +kernel
theorem dX8_twice_118 : decode cX8_twice 118 = .ok (.iadd, 1) := by decide +kernel
theorem dX8_twice_119 : decode cX8_twice 119 = .ok (.iaload, 1) := by decide +kernel
theorem dX8_twice_120 : decode cX8_twice 120 = .ok (.if_icmp .ne 7, 3) := by decide +kernel
theorem dX8_twice_123 : decode cX8_twice 123 = .ok (.iconst 1, 1) := by decide +kernel
theorem dX8_twice_124 : decode cX8_twice 124 = .ok (.goto 4, 3) := by decide +kernel
theorem dX8_twice_127 : decode cX8_twice 127 = .ok (.iconst 0, 1) := by decide +kernel
theorem dX8_twice_128 : decode cX8_twice 128 = .ok (.istore 5, 2) := by decide +kernel
theorem dX8_twice_130 : decode cX8_twice 130 = .ok (.iinc 6 1, 3) := by decide +kernel
theorem dX8_twice_133 : decode cX8_twice 133 = .ok (.goto (-72), 3) := by decide +kernel
theorem dX8_twice_136 : decode cX8_twice 136 = .ok (.iload 5, 2) := by decide +kernel
theorem dX8_twice_138 : decode cX8_twice 138 = .ok (.ifCond .eq 5, 3) := by decide +kernel
theorem dX8_twice_141 : decode cX8_twice 141 = .ok (.iload_n 3, 1) := by decide +kernel
theorem dX8_twice_142 : decode cX8_twice 142 = .ok (.ireturn, 1) := by decide +kernel
theorem dX8_twice_143 : decode cX8_twice 143 = .ok (.iinc 4 1, 3) := by decide +kernel
theorem dX8_twice_146 : decode cX8_twice 146 = .ok (.goto (-97), 3) := by decide +kernel
theorem dX8_twice_149 : decode cX8_twice 149 = .ok (.iinc 3 1, 3) := by decide +kernel
theorem dX8_twice_152 : decode cX8_twice 152 = .ok (.goto (-116), 3) := by decide +kernel
theorem dX8_twice_155 : decode cX8_twice 155 = .ok (.iconst (-1), 1) := by decide +kernel
theorem dX8_twice_156 : decode cX8_twice 156 = .ok (.ireturn, 1) := by decide +kernel
theorem dX8_parts_0 : decode cX8_parts 0 = .ok (.iload_n 1, 1) := by decide +kernel
theorem dX8_parts_1 : decode cX8_parts 1 = .ok (.invokestatic 168, 3) := by decide +kernel
theorem dX8_parts_4 : decode cX8_parts 4 = .ok (.ifCond .ne 6, 3) := by decide +kernel
theorem dX8_parts_7 : decode cX8_parts 7 = .ok (.bipush (-2), 2) := by decide +kernel
theorem dX8_parts_9 : decode cX8_parts 9 = .ok (.ireturn, 1) := by decide +kernel
theorem dX8_parts_10 : decode cX8_parts 10 = .ok (.aload_n 0, 1) := by decide +kernel
theorem dX8_parts_11 : decode cX8_parts 11 = .ok (.iload_n 1, 1) := by decide +kernel
theorem dX8_parts_12 : decode cX8_parts 12 = .ok (.invokevirtual 186, 3) := by decide +kernel
theorem dX8_parts_15 : decode cX8_parts 15 = .ok (.istore_n 2, 1) := by decide +kernel
theorem dX8_parts_16 : decode cX8_parts 16 = .ok (.iload_n 2, 1) := by decide +kernel
theorem dX8_parts_17 : decode cX8_parts 17 = .ok (.ifCond .eq 5, 3) := by decide +kernel
theorem dX8_parts_20 : decode cX8_parts 20 = .ok (.iload_n 2, 1) := by decide +kernel
theorem dX8_parts_21 : decode cX8_parts 21 = .ok (.ireturn, 1) := by decide +kernel
theorem dX8_parts_22 : decode cX8_parts 22 = .ok (.aload_n 0, 1) := by decide +kernel
theorem dX8_parts_23 : decode cX8_parts 23 = .ok (.getfield 50, 3) := by decide +kernel
theorem dX8_parts_26 : decode cX8_parts 26 = .ok (.iload_n 1, 1) := by decide +kernel
theorem dX8_parts_27 : decode cX8_parts 27 = .ok (.iaload, 1) := by decide +kernel
theorem dX8_parts_28 : decode cX8_parts 28 = .ok (.istore_n 3, 1) := by decide +kernel
theorem dX8_parts_29 : decode cX8_parts 29 = .ok (.iconst 0, 1) := by decide +kernel
theorem dX8_parts_30 : decode cX8_parts 30 = .ok (.istore 4, 2) := by decide +kernel
theorem dX8_parts_32 : decode cX8_parts 32 = .ok (.iconst 0, 1) := by decide +kernel
theorem dX8_parts_33 : decode cX8_parts 33 = .ok (.istore 5, 2) := by decide +kernel
theorem dX8_parts_35 : decode cX8_parts 35 = .ok (.iload 5, 2) := by decide +kernel
theorem dX8_parts_37 : decode cX8_parts 37 = .ok (.iload_n 3, 1) := by decide +kernel
theorem dX8_parts_38 : decode cX8_parts 38 = .ok (.if_icmp .ge 129, 3) := by decide +kernel
theorem dX8_parts_41 : decode cX8_parts 41 = .ok (.iload 5, 2) := by decide +kernel
theorem dX8_parts_43 : decode cX8_parts 43 = .ok (.iconst 1, 1) := by decide +kernel
theorem dX8_parts_44 : decode cX8_parts 44 = .ok (.iadd, 1) := by decide +kernel
theorem dX8_parts_45 : decode cX8_parts 45 = .ok (.istore 6, 2) := by decide +kernel
theorem dX8_parts_47 : decode cX8_parts 47 = .ok (.iload 5, 2) := by decide +kernel
theorem dX8_parts_49 : decode cX8_parts 49 = .ok (.istore 7, 2) := by decide +kernel
theorem dX8_parts_51 : decode cX8_parts 51 = .ok (.iload 6, 2) := by decide +kernel
theorem dX8_parts_53 : decode cX8_parts 53 = .ok (.iload_n 3, 1) := by decide +kernel
theorem dX8_parts_54 : decode cX8_parts 54 = .ok (.if_icmp .ge 78, 3) := by decide +kernel
theorem dX8_parts_57 : decode cX8_parts 57 = .ok (.aload_n 0, 1) := by decide +kernel
theorem dX8_parts_58 : decode cX8_parts 58 = .ok (.getfield 53, 3) := by decide +kernel
theorem dX8_parts_61 : decode cX8_parts 61 = .ok (.sipush 200, 3) := by decide +kernel
theorem dX8_parts_64 : decode cX8_parts 64 = .ok (.iload_n 1, 1) := by decide +kernel
theorem dX8_parts_65 : decode cX8_parts 65 = .ok (.imul, 1) := by decide +kernel
theorem dX8_parts_66 : decode cX8_parts 66 = .ok (.iload 7, 2) := by decide +kernel
theorem dX8_parts_68 : decode cX8_parts 68 = .ok (.iadd, 1) := by decide +kernel
theorem dX8_parts_69 : decode cX8_parts 69 = .ok (.iaload, 1) := by decide +kernel
theorem dX8_parts_70 : decode cX8_parts 70 = .ok (.aload_n 0, 1) := by decide +kernel
theorem dX8_parts_71 : decode cX8_parts 71 = .ok (.getfield 53, 3) := by decide +kernel
theorem dX8_parts_74 : decode cX8_parts 74 = .ok (.sipush 200, 3) := by decide +kernel
theorem dX8_parts_77 : decode cX8_parts 77 = .ok (.iload_n 1, 1) := by decide +kernel
theorem dX8_parts_78 : decode cX8_parts 78 = .ok (.imul, 1) := by decide +kernel
theorem dX8_parts_79 : decode cX8_parts 79 = .ok (.iload 6, 2) := by decide +kernel
theorem dX8_parts_81 : decode cX8_parts 81 = .ok (.iadd, 1) := by decide +kernel
theorem dX8_parts_82 : decode cX8_parts 82 = .ok (.iaload, 1) := by decide +kernel
theorem dX8_parts_83 : decode cX8_parts 83 = .ok (.if_icmp .gt 49, 3) := by decide +kernel
theorem dX8_parts_86 : decode cX8_parts 86 = .ok (.aload_n 0, 1) := by decide +kernel
theorem dX8_parts_87 : decode cX8_parts 87 = .ok (.getfield 53, 3) := by decide +kernel
theorem dX8_parts_90 : decode cX8_parts 90 = .ok (.sipush 200, 3) := by decide +kernel
theorem dX8_parts_93 : decode cX8_parts 93 = .ok (.iload_n 1, 1) := by decide +kernel
theorem dX8_parts_94 : decode cX8_parts 94 = .ok (.imul, 1) := by decide +kernel
theorem dX8_parts_95 : decode cX8_parts 95 = .ok (.iload 7, 2) := by decide +kernel
theorem dX8_parts_97 : decode cX8_parts 97 = .ok (.iadd, 1) := by decide +kernel
theorem dX8_parts_98 : decode cX8_parts 98 = .ok (.iaload, 1) := by decide +kernel
theorem dX8_parts_99 : decode cX8_parts 99 = .ok (.aload_n 0, 1) := by decide +kernel
theorem dX8_parts_100 : decode cX8_parts 100 = .ok (.getfield 53, 3) := by decide +kernel
theorem dX8_parts_103 : decode cX8_parts 103 = .ok (.sipush 200, 3) := by decide +kernel
theorem dX8_parts_106 : decode cX8_parts 106 = .ok (.iload_n 1, 1) := by decide +kernel
theorem dX8_parts_107 : decode cX8_parts 107 = .ok (.imul, 1) := by decide +kernel
theorem dX8_parts_108 : decode cX8_parts 108 = .ok (.iload 6, 2) := by decide +kernel
theorem dX8_parts_110 : decode cX8_parts 110 = .ok (.iadd, 1) := by decide +kernel
theorem dX8_parts_111 : decode cX8_parts 111 = .ok (.iaload, 1) := by decide +kernel
theorem dX8_parts_112 : decode cX8_parts 112 = .ok (.if_icmp .ge 8, 3) := by decide +kernel
theorem dX8_parts_115 : decode cX8_parts 115 = .ok (.iload 5, 2) := by decide +kernel
theorem dX8_parts_117 : decode cX8_parts 117 = .ok (.goto 7, 3) := by decide +kernel
theorem dX8_parts_120 : decode cX8_parts 120 = .ok (.iload 7, 2) := by decide +kernel
theorem dX8_parts_122 : decode cX8_parts 122 = .ok (.iconst 1, 1) := by decide +kernel
theorem dX8_parts_123 : decode cX8_parts 123 = .ok (.iadd, 1) := by decide +kernel
theorem dX8_parts_124 : decode cX8_parts 124 = .ok (.istore 7, 2) := by decide +kernel
theorem dX8_parts_126 : decode cX8_parts 126 = .ok (.iinc 6 1, 3) := by decide +kernel
theorem dX8_parts_129 : decode cX8_parts 129 = .ok (.goto (-78), 3) := by decide +kernel
theorem dX8_parts_132 : decode cX8_parts 132 = .ok (.iload 5, 2) := by decide +kernel
theorem dX8_parts_134 : decode cX8_parts 134 = .ok (.iload 7, 2) := by decide +kernel
theorem dX8_parts_136 : decode cX8_parts 136 = .ok (.if_icmp .gt 28, 3) := by decide +kernel
theorem dX8_parts_139 : decode cX8_parts 139 = .ok (.aload_n 0, 1) := by decide +kernel
theorem dX8_parts_140 : decode cX8_parts 140 = .ok (.getfield 59, 3) := by decide +kernel
theorem dX8_parts_143 : decode cX8_parts 143 = .ok (.iload 4, 2) := by decide +kernel
theorem dX8_parts_145 : decode cX8_parts 145 = .ok (.iload 5, 2) := by decide +kernel
theorem dX8_parts_147 : decode cX8_parts 147 = .ok (.iastore, 1) := by decide +kernel
theorem dX8_parts_148 : decode cX8_parts 148 = .ok (.iinc 4 1, 3) := by decide +kernel
theorem dX8_parts_151 : decode cX8_parts 151 = .ok (.iload 5, 2) := by decide +kernel
theorem dX8_parts_153 : decode cX8_parts 153 = .ok (.iload 6, 2) := by decide +kernel
theorem dX8_parts_155 : decode cX8_parts 155 = .ok (.iload 7, 2) := by decide +kernel
theorem dX8_parts_157 : decode cX8_parts 157 = .ok (.isub, 1) := by decide +kernel
theorem dX8_parts_158 : decode cX8_parts 158 = .ok (.iadd, 1) := by decide +kernel
theorem dX8_parts_159 : decode cX8_parts 159 = .ok (.istore 5, 2) := by decide +kernel
theorem dX8_parts_161 : decode cX8_parts 161 = .ok (.goto (-29), 3) := by decide +kernel
theorem dX8_parts_164 : decode cX8_parts 164 = .ok (.goto (-129), 3) := by decide +kernel
theorem dX8_parts_167 : decode cX8_parts 167 = .ok (.aload_n 0, 1) := by decide +kernel
theorem dX8_parts_168 : decode cX8_parts 168 = .ok (.iload 4, 2) := by decide +kernel
theorem dX8_parts_170 : decode cX8_parts 170 = .ok (.ifCond .le 8, 3) := by decide +kernel
theorem dX8_parts_173 : decode cX8_parts 173 = .ok (.iload 4, 2) := by decide +kernel
theorem dX8_parts_175 : decode cX8_parts 175 = .ok (.goto 7, 3) := by decide +kernel
theorem dX8_parts_178 : decode cX8_parts 178 = .ok (.aload_n 0, 1) := by decide +kernel
theorem dX8_parts_179 : decode cX8_parts 179 = .ok (.getfield 189, 3) := by decide +kernel
theorem dX8_parts_182 : decode cX8_parts 182 = .ok (.putfield 189, 3) := by decide +kernel
theorem dX8_parts_185 : decode cX8_parts 185 = .ok (.iload 4, 2) := by decide +kernel
theorem dX8_parts_187 : decode cX8_parts 187 = .ok (.ireturn, 1) := by decide +kernel
theorem dX8_part_0 : decode cX8_part 0 = .ok (.iload_n 1, 1) := by decide +kernel
theorem dX8_part_1 : decode cX8_part 1 = .ok (.i2l, 1) := by decide +kernel
theorem dX8_part_2 : decode cX8_part 2 = .ok (.lconst 0, 1) := by decide +kernel
theorem dX8_part_3 : decode cX8_part 3 = .ok (.aload_n 0, 1) := by decide +kernel
theorem dX8_part_4 : decode cX8_part 4 = .ok (.getfield 189, 3) := by decide +kernel
theorem dX8_part_7 : decode cX8_part 7 = .ok (.iconst 1, 1) := by decide +kernel
theorem dX8_part_8 : decode cX8_part 8 = .ok (.isub, 1) := by decide +kernel
theorem dX8_part_9 : decode cX8_part 9 = .ok (.i2l, 1) := by decide +kernel
theorem dX8_part_10 : decode cX8_part 10 = .ok (.invokestatic 86, 3) := by decide +kernel
theorem dX8_part_13 : decode cX8_part 13 = .ok (.ifCond .eq 12, 3) := by decide +kernel
theorem dX8_part_16 : decode cX8_part 16 = .ok (.aload_n 0, 1) := by decide +kernel
theorem dX8_part_17 : decode cX8_part 17 = .ok (.getfield 59, 3) := by decide +kernel
theorem dX8_part_20 : decode cX8_part 20 = .ok (.iload_n 1, 1) := by decide +kernel
theorem dX8_part_21 : decode cX8_part 21 = .ok (.iaload, 1) := by decide +kernel
theorem dX8_part_22 : decode cX8_part 22 = .ok (.goto 5, 3) := by decide +kernel
theorem dX8_part_25 : decode cX8_part 25 = .ok (.bipush (-2), 2) := by decide +kernel
theorem dX8_part_27 : decode cX8_part 27 = .ok (.ireturn, 1) := by decide +kernel
theorem dX8_inverse_0 : decode cX8_inverse 0 = .ok (.iconst 1, 1) := by decide +kernel
theorem dX8_inverse_1 : decode cX8_inverse 1 = .ok (.istore_n 2, 1) := by decide +kernel
theorem dX8_inverse_2 : decode cX8_inverse 2 = .ok (.iload_n 2, 1) := by decide +kernel
theorem dX8_inverse_3 : decode cX8_inverse 3 = .ok (.iload_n 1, 1) := by decide +kernel
theorem dX8_inverse_4 : decode cX8_inverse 4 = .ok (.imul, 1) := by decide +kernel
theorem dX8_inverse_5 : decode cX8_inverse 5 = .ok (.aload_n 0, 1) := by decide +kernel
theorem dX8_inverse_6 : decode cX8_inverse 6 = .ok (.getfield 92, 3) := by decide +kernel
theorem dX8_inverse_9 : decode cX8_inverse 9 = .ok (.irem, 1) := by decide +kernel
theorem dX8_inverse_10 : decode cX8_inverse 10 = .ok (.iconst 1, 1) := by decide +kernel
theorem dX8_inverse_11 : decode cX8_inverse 11 = .ok (.if_icmp .eq 9, 3) := by decide +kernel
theorem dX8_inverse_14 : decode cX8_inverse 14 = .ok (.iinc 2 1, 3) := by decide +kernel
theorem dX8_inverse_17 : decode cX8_inverse 17 = .ok (.goto (-15), 3) := by decide +kernel
theorem dX8_inverse_20 : decode cX8_inverse 20 = .ok (.iload_n 2, 1) := by decide +kernel
theorem dX8_inverse_21 : decode cX8_inverse 21 = .ok (.ireturn, 1) := by decide +kernel
theorem dX8_leastLength_0 : decode cX8_leastLength 0 = .ok (.aload_n 0, 1) := by decide +kernel
theorem dX8_leastLength_1 : decode cX8_leastLength 1 = .ok (.getfield 50, 3) := by decide +kernel
theorem dX8_leastLength_4 : decode cX8_leastLength 4 = .ok (.iload_n 1, 1) := by decide +kernel
theorem dX8_leastLength_5 : decode cX8_leastLength 5 = .ok (.iaload, 1) := by decide +kernel
theorem dX8_leastLength_6 : decode cX8_leastLength 6 = .ok (.istore_n 2, 1) := by decide +kernel
theorem dX8_leastLength_7 : decode cX8_leastLength 7 = .ok (.iconst 0, 1) := by decide +kernel
theorem dX8_leastLength_8 : decode cX8_leastLength 8 = .ok (.istore_n 3, 1) := by decide +kernel
theorem dX8_leastLength_9 : decode cX8_leastLength 9 = .ok (.iload_n 3, 1) := by decide +kernel
theorem dX8_leastLength_10 : decode cX8_leastLength 10 = .ok (.sipush 202, 3) := by decide +kernel
theorem dX8_leastLength_13 : decode cX8_leastLength 13 = .ok (.if_icmp .ge 39, 3) := by decide +kernel
theorem dX8_leastLength_16 : decode cX8_leastLength 16 = .ok (.aload_n 0, 1) := by decide +kernel
theorem dX8_leastLength_17 : decode cX8_leastLength 17 = .ok (.getfield 65, 3) := by decide +kernel
theorem dX8_leastLength_20 : decode cX8_leastLength 20 = .ok (.iload_n 3, 1) := by decide +kernel
theorem dX8_leastLength_21 : decode cX8_leastLength 21 = .ok (.iload_n 3, 1) := by decide +kernel
theorem dX8_leastLength_22 : decode cX8_leastLength 22 = .ok (.ifCond .ne 7, 3) := by decide +kernel
theorem dX8_leastLength_25 : decode cX8_leastLength 25 = .ok (.iconst 1, 1) := by decide +kernel
theorem dX8_leastLength_26 : decode cX8_leastLength 26 = .ok (.goto 4, 3) := by decide +kernel
theorem dX8_leastLength_29 : decode cX8_leastLength 29 = .ok (.iconst 0, 1) := by decide +kernel
theorem dX8_leastLength_30 : decode cX8_leastLength 30 = .ok (.iastore, 1) := by decide +kernel
theorem dX8_leastLength_31 : decode cX8_leastLength 31 = .ok (.aload_n 0, 1) := by decide +kernel
theorem dX8_leastLength_32 : decode cX8_leastLength 32 = .ok (.getfield 68, 3) := by decide +kernel
theorem dX8_leastLength_35 : decode cX8_leastLength 35 = .ok (.iload_n 3, 1) := by decide +kernel
theorem dX8_leastLength_36 : decode cX8_leastLength 36 = .ok (.iload_n 3, 1) := by decide +kernel
theorem dX8_leastLength_37 : decode cX8_leastLength 37 = .ok (.ifCond .ne 7, 3) := by decide +kernel
theorem dX8_leastLength_40 : decode cX8_leastLength 40 = .ok (.iconst 1, 1) := by decide +kernel
theorem dX8_leastLength_41 : decode cX8_leastLength 41 = .ok (.goto 4, 3) := by decide +kernel
theorem dX8_leastLength_44 : decode cX8_leastLength 44 = .ok (.iconst 0, 1) := by decide +kernel
theorem dX8_leastLength_45 : decode cX8_leastLength 45 = .ok (.iastore, 1) := by decide +kernel
theorem dX8_leastLength_46 : decode cX8_leastLength 46 = .ok (.iinc 3 1, 3) := by decide +kernel
theorem dX8_leastLength_49 : decode cX8_leastLength 49 = .ok (.goto (-40), 3) := by decide +kernel
theorem dX8_leastLength_52 : decode cX8_leastLength 52 = .ok (.iconst 0, 1) := by decide +kernel
theorem dX8_leastLength_53 : decode cX8_leastLength 53 = .ok (.istore_n 3, 1) := by decide +kernel
theorem dX8_leastLength_54 : decode cX8_leastLength 54 = .ok (.iconst 1, 1) := by decide +kernel
theorem dX8_leastLength_55 : decode cX8_leastLength 55 = .ok (.istore 4, 2) := by decide +kernel
theorem dX8_leastLength_57 : decode cX8_leastLength 57 = .ok (.iconst 1, 1) := by decide +kernel
theorem dX8_leastLength_58 : decode cX8_leastLength 58 = .ok (.istore 5, 2) := by decide +kernel
theorem dX8_leastLength_60 : decode cX8_leastLength 60 = .ok (.iconst 0, 1) := by decide +kernel
theorem dX8_leastLength_61 : decode cX8_leastLength 61 = .ok (.istore 6, 2) := by decide +kernel
theorem dX8_leastLength_63 : decode cX8_leastLength 63 = .ok (.iload 6, 2) := by decide +kernel
theorem dX8_leastLength_65 : decode cX8_leastLength 65 = .ok (.iload_n 2, 1) := by decide +kernel
theorem dX8_leastLength_66 : decode cX8_leastLength 66 = .ok (.if_icmp .ge 239, 3) := by decide +kernel
theorem dX8_leastLength_69 : decode cX8_leastLength 69 = .ok (.iconst 0, 1) := by decide +kernel
theorem dX8_leastLength_70 : decode cX8_leastLength 70 = .ok (.istore 7, 2) := by decide +kernel
theorem dX8_leastLength_72 : decode cX8_leastLength 72 = .ok (.iconst 0, 1) := by decide +kernel
theorem dX8_leastLength_73 : decode cX8_leastLength 73 = .ok (.istore 8, 2) := by decide +kernel
theorem dX8_leastLength_75 : decode cX8_leastLength 75 = .ok (.iload 8, 2) := by decide +kernel
theorem dX8_leastLength_77 : decode cX8_leastLength 77 = .ok (.iload_n 3, 1) := by decide +kernel
theorem dX8_leastLength_78 : decode cX8_leastLength 78 = .ok (.if_icmp .gt 43, 3) := by decide +kernel
theorem dX8_leastLength_81 : decode cX8_leastLength 81 = .ok (.iload 7, 2) := by decide +kernel
theorem dX8_leastLength_83 : decode cX8_leastLength 83 = .ok (.aload_n 0, 1) := by decide +kernel
theorem dX8_leastLength_84 : decode cX8_leastLength 84 = .ok (.getfield 65, 3) := by decide +kernel
theorem dX8_leastLength_87 : decode cX8_leastLength 87 = .ok (.iload 8, 2) := by decide +kernel
theorem dX8_leastLength_89 : decode cX8_leastLength 89 = .ok (.iaload, 1) := by decide +kernel
theorem dX8_leastLength_90 : decode cX8_leastLength 90 = .ok (.aload_n 0, 1) := by decide +kernel
theorem dX8_leastLength_91 : decode cX8_leastLength 91 = .ok (.getfield 53, 3) := by decide +kernel
theorem dX8_leastLength_94 : decode cX8_leastLength 94 = .ok (.sipush 200, 3) := by decide +kernel
theorem dX8_leastLength_97 : decode cX8_leastLength 97 = .ok (.iload_n 1, 1) := by decide +kernel
theorem dX8_leastLength_98 : decode cX8_leastLength 98 = .ok (.imul, 1) := by decide +kernel
theorem dX8_leastLength_99 : decode cX8_leastLength 99 = .ok (.iload 6, 2) := by decide +kernel
theorem dX8_leastLength_101 : decode cX8_leastLength 101 = .ok (.iadd, 1) := by decide +kernel
theorem dX8_leastLength_102 : decode cX8_leastLength 102 = .ok (.iload 8, 2) := by decide +kernel
theorem dX8_leastLength_104 : decode cX8_leastLength 104 = .ok (.isub, 1) := by decide +kernel
theorem dX8_leastLength_105 : decode cX8_leastLength 105 = .ok (.iaload, 1) := by decide +kernel
theorem dX8_leastLength_106 : decode cX8_leastLength 106 = .ok (.imul, 1) := by decide +kernel
theorem dX8_leastLength_107 : decode cX8_leastLength 107 = .ok (.iadd, 1) := by decide +kernel
theorem dX8_leastLength_108 : decode cX8_leastLength 108 = .ok (.aload_n 0, 1) := by decide +kernel
theorem dX8_leastLength_109 : decode cX8_leastLength 109 = .ok (.getfield 92, 3) := by decide +kernel
theorem dX8_leastLength_112 : decode cX8_leastLength 112 = .ok (.irem, 1) := by decide +kernel
theorem dX8_leastLength_113 : decode cX8_leastLength 113 = .ok (.istore 7, 2) := by decide +kernel
theorem dX8_leastLength_115 : decode cX8_leastLength 115 = .ok (.iinc 8 1, 3) := by decide +kernel
theorem dX8_leastLength_118 : decode cX8_leastLength 118 = .ok (.goto (-43), 3) := by decide +kernel
theorem dX8_leastLength_121 : decode cX8_leastLength 121 = .ok (.iload 7, 2) := by decide +kernel
theorem dX8_leastLength_123 : decode cX8_leastLength 123 = .ok (.ifCond .ne 9, 3) := by decide +kernel
theorem dX8_leastLength_126 : decode cX8_leastLength 126 = .ok (.iinc 4 1, 3) := by decide +kernel
theorem dX8_leastLength_129 : decode cX8_leastLength 129 = .ok (.goto 170, 3) := by decide +kernel
theorem dX8_leastLength_132 : decode cX8_leastLength 132 = .ok (.iconst 0, 1) := by decide +kernel
theorem dX8_leastLength_133 : decode cX8_leastLength 133 = .ok (.istore 8, 2) := by decide +kernel
theorem dX8_leastLength_135 : decode cX8_leastLength 135 = .ok (.iload 8, 2) := by decide +kernel
theorem dX8_leastLength_137 : decode cX8_leastLength 137 = .ok (.sipush 202, 3) := by decide +kernel
theorem dX8_leastLength_140 : decode cX8_leastLength 140 = .ok (.if_icmp .ge 23, 3) := by decide +kernel
theorem dX8_leastLength_143 : decode cX8_leastLength 143 = .ok (.aload_n 0, 1) := by decide +kernel
theorem dX8_leastLength_144 : decode cX8_leastLength 144 = .ok (.getfield 71, 3) := by decide +kernel
theorem dX8_leastLength_147 : decode cX8_leastLength 147 = .ok (.iload 8, 2) := by decide +kernel
theorem dX8_leastLength_149 : decode cX8_leastLength 149 = .ok (.aload_n 0, 1) := by decide +kernel
theorem dX8_leastLength_150 : decode cX8_leastLength 150 = .ok (.getfield 65, 3) := by decide +kernel
theorem dX8_leastLength_153 : decode cX8_leastLength 153 = .ok (.iload 8, 2) := by decide +kernel
theorem dX8_leastLength_155 : decode cX8_leastLength 155 = .ok (.iaload, 1) := by decide +kernel
theorem dX8_leastLength_156 : decode cX8_leastLength 156 = .ok (.iastore, 1) := by decide +kernel
theorem dX8_leastLength_157 : decode cX8_leastLength 157 = .ok (.iinc 8 1, 3) := by decide +kernel
theorem dX8_leastLength_160 : decode cX8_leastLength 160 = .ok (.goto (-25), 3) := by decide +kernel
theorem dX8_leastLength_163 : decode cX8_leastLength 163 = .ok (.iload 7, 2) := by decide +kernel
theorem dX8_leastLength_165 : decode cX8_leastLength 165 = .ok (.aload_n 0, 1) := by decide +kernel
theorem dX8_leastLength_166 : decode cX8_leastLength 166 = .ok (.iload 5, 2) := by decide +kernel
theorem dX8_leastLength_168 : decode cX8_leastLength 168 = .ok (.invokevirtual 192, 3) := by decide +kernel
theorem dX8_leastLength_171 : decode cX8_leastLength 171 = .ok (.imul, 1) := by decide +kernel
theorem dX8_leastLength_172 : decode cX8_leastLength 172 = .ok (.aload_n 0, 1) := by decide +kernel
theorem dX8_leastLength_173 : decode cX8_leastLength 173 = .ok (.getfield 92, 3) := by decide +kernel
theorem dX8_leastLength_176 : decode cX8_leastLength 176 = .ok (.irem, 1) := by decide +kernel
theorem dX8_leastLength_177 : decode cX8_leastLength 177 = .ok (.istore 8, 2) := by decide +kernel
theorem dX8_leastLength_179 : decode cX8_leastLength 179 = .ok (.iconst 0, 1) := by decide +kernel
theorem dX8_leastLength_180 : decode cX8_leastLength 180 = .ok (.istore 9, 2) := by decide +kernel
theorem dX8_leastLength_182 : decode cX8_leastLength 182 = .ok (.iload 9, 2) := by decide +kernel
theorem dX8_leastLength_184 : decode cX8_leastLength 184 = .ok (.iload 4, 2) := by decide +kernel
theorem dX8_leastLength_186 : decode cX8_leastLength 186 = .ok (.iadd, 1) := by decide +kernel
theorem dX8_leastLength_187 : decode cX8_leastLength 187 = .ok (.sipush 202, 3) := by decide +kernel
theorem dX8_leastLength_190 : decode cX8_leastLength 190 = .ok (.if_icmp .ge 50, 3) := by decide +kernel
theorem dX8_leastLength_193 : decode cX8_leastLength 193 = .ok (.aload_n 0, 1) := by decide +kernel
theorem dX8_leastLength_194 : decode cX8_leastLength 194 = .ok (.getfield 65, 3) := by decide +kernel
theorem dX8_leastLength_197 : decode cX8_leastLength 197 = .ok (.iload 9, 2) := by decide +kernel
theorem dX8_leastLength_199 : decode cX8_leastLength 199 = .ok (.iload 4, 2) := by decide +kernel
theorem dX8_leastLength_201 : decode cX8_leastLength 201 = .ok (.iadd, 1) := by decide +kernel
theorem dX8_leastLength_202 : decode cX8_leastLength 202 = .ok (.aload_n 0, 1) := by decide +kernel
theorem dX8_leastLength_203 : decode cX8_leastLength 203 = .ok (.getfield 65, 3) := by decide +kernel
theorem dX8_leastLength_206 : decode cX8_leastLength 206 = .ok (.iload 9, 2) := by decide +kernel
theorem dX8_leastLength_208 : decode cX8_leastLength 208 = .ok (.iload 4, 2) := by decide +kernel
theorem dX8_leastLength_210 : decode cX8_leastLength 210 = .ok (.iadd, 1) := by decide +kernel
theorem dX8_leastLength_211 : decode cX8_leastLength 211 = .ok (.iaload, 1) := by decide +kernel
theorem dX8_leastLength_212 : decode cX8_leastLength 212 = .ok (.aload_n 0, 1) := by decide +kernel
theorem dX8_leastLength_213 : decode cX8_leastLength 213 = .ok (.getfield 92, 3) := by decide +kernel
theorem dX8_leastLength_216 : decode cX8_leastLength 216 = .ok (.iload 8, 2) := by decide +kernel
theorem dX8_leastLength_218 : decode cX8_leastLength 218 = .ok (.isub, 1) := by decide +kernel
theorem dX8_leastLength_219 : decode cX8_leastLength 219 = .ok (.aload_n 0, 1) := by decide +kernel
theorem dX8_leastLength_220 : decode cX8_leastLength 220 = .ok (.getfield 68, 3) := by decide +kernel
theorem dX8_leastLength_223 : decode cX8_leastLength 223 = .ok (.iload 9, 2) := by decide +kernel
theorem dX8_leastLength_225 : decode cX8_leastLength 225 = .ok (.iaload, 1) := by decide +kernel
theorem dX8_leastLength_226 : decode cX8_leastLength 226 = .ok (.imul, 1) := by decide +kernel
theorem dX8_leastLength_227 : decode cX8_leastLength 227 = .ok (.iadd, 1) := by decide +kernel
theorem dX8_leastLength_228 : decode cX8_leastLength 228 = .ok (.aload_n 0, 1) := by decide +kernel
theorem dX8_leastLength_229 : decode cX8_leastLength 229 = .ok (.getfield 92, 3) := by decide +kernel
theorem dX8_leastLength_232 : decode cX8_leastLength 232 = .ok (.irem, 1) := by decide +kernel
theorem dX8_leastLength_233 : decode cX8_leastLength 233 = .ok (.iastore, 1) := by decide +kernel
theorem dX8_leastLength_234 : decode cX8_leastLength 234 = .ok (.iinc 9 1, 3) := by decide +kernel
theorem dX8_leastLength_237 : decode cX8_leastLength 237 = .ok (.goto (-55), 3) := by decide +kernel
theorem dX8_leastLength_240 : decode cX8_leastLength 240 = .ok (.iconst 2, 1) := by decide +kernel
theorem dX8_leastLength_241 : decode cX8_leastLength 241 = .ok (.iload_n 3, 1) := by decide +kernel
theorem dX8_leastLength_242 : decode cX8_leastLength 242 = .ok (.imul, 1) := by decide +kernel
theorem dX8_leastLength_243 : decode cX8_leastLength 243 = .ok (.iload 6, 2) := by decide +kernel
theorem dX8_leastLength_245 : decode cX8_leastLength 245 = .ok (.if_icmp .gt 51, 3) := by decide +kernel
theorem dX8_leastLength_248 : decode cX8_leastLength 248 = .ok (.iload 6, 2) := by decide +kernel
theorem dX8_leastLength_250 : decode cX8_leastLength 250 = .ok (.iconst 1, 1) := by decide +kernel
theorem dX8_leastLength_251 : decode cX8_leastLength 251 = .ok (.iadd, 1) := by decide +kernel
theorem dX8_leastLength_252 : decode cX8_leastLength 252 = .ok (.iload_n 3, 1) := by decide +kernel
theorem dX8_leastLength_253 : decode cX8_leastLength 253 = .ok (.isub, 1) := by decide +kernel
theorem dX8_leastLength_254 : decode cX8_leastLength 254 = .ok (.istore_n 3, 1) := by decide +kernel
theorem dX8_leastLength_255 : decode cX8_leastLength 255 = .ok (.iconst 0, 1) := by decide +kernel
theorem dX8_leastLength_256 : decode cX8_leastLength 256 = .ok (.istore 9, 2) := by decide +kernel
theorem dX8_leastLength_258 : decode cX8_leastLength 258 = .ok (.iload 9, 2) := by decide +kernel
theorem dX8_leastLength_260 : decode cX8_leastLength 260 = .ok (.sipush 202, 3) := by decide +kernel
theorem dX8_leastLength_263 : decode cX8_leastLength 263 = .ok (.if_icmp .ge 23, 3) := by decide +kernel
theorem dX8_leastLength_266 : decode cX8_leastLength 266 = .ok (.aload_n 0, 1) := by decide +kernel
theorem dX8_leastLength_267 : decode cX8_leastLength 267 = .ok (.getfield 68, 3) := by decide +kernel
theorem dX8_leastLength_270 : decode cX8_leastLength 270 = .ok (.iload 9, 2) := by decide +kernel
theorem dX8_leastLength_272 : decode cX8_leastLength 272 = .ok (.aload_n 0, 1) := by decide +kernel
theorem dX8_leastLength_273 : decode cX8_leastLength 273 = .ok (.getfield 71, 3) := by decide +kernel
theorem dX8_leastLength_276 : decode cX8_leastLength 276 = .ok (.iload 9, 2) := by decide +kernel
theorem dX8_leastLength_278 : decode cX8_leastLength 278 = .ok (.iaload, 1) := by decide +kernel
theorem dX8_leastLength_279 : decode cX8_leastLength 279 = .ok (.iastore, 1) := by decide +kernel
theorem dX8_leastLength_280 : decode cX8_leastLength 280 = .ok (.iinc 9 1, 3) := by decide +kernel
theorem dX8_leastLength_283 : decode cX8_leastLength 283 = .ok (.goto (-25), 3) := by decide +kernel
theorem dX8_leastLength_286 : decode cX8_leastLength 286 = .ok (.iload 7, 2) := by decide +kernel
theorem dX8_leastLength_288 : decode cX8_leastLength 288 = .ok (.istore 5, 2) := by decide +kernel
theorem dX8_leastLength_290 : decode cX8_leastLength 290 = .ok (.iconst 1, 1) := by decide +kernel
theorem dX8_leastLength_291 : decode cX8_leastLength 291 = .ok (.istore 4, 2) := by decide +kernel
theorem dX8_leastLength_293 : decode cX8_leastLength 293 = .ok (.goto 6, 3) := by decide +kernel
theorem dX8_leastLength_296 : decode cX8_leastLength 296 = .ok (.iinc 4 1, 3) := by decide +kernel
theorem dX8_leastLength_299 : decode cX8_leastLength 299 = .ok (.iinc 6 1, 3) := by decide +kernel
theorem dX8_leastLength_302 : decode cX8_leastLength 302 = .ok (.goto (-239), 3) := by decide +kernel
theorem dX8_leastLength_305 : decode cX8_leastLength 305 = .ok (.iload_n 3, 1) := by decide +kernel
theorem dX8_leastLength_306 : decode cX8_leastLength 306 = .ok (.ireturn, 1) := by decide +kernel
theorem dX8_solve_0 : decode cX8_solve 0 = .ok (.aload_n 0, 1) := by decide +kernel
theorem dX8_solve_1 : decode cX8_solve 1 = .ok (.getfield 50, 3) := by decide +kernel
theorem dX8_solve_4 : decode cX8_solve 4 = .ok (.iload_n 1, 1) := by decide +kernel
theorem dX8_solve_5 : decode cX8_solve 5 = .ok (.iaload, 1) := by decide +kernel
theorem dX8_solve_6 : decode cX8_solve 6 = .ok (.istore_n 3, 1) := by decide +kernel
theorem dX8_solve_7 : decode cX8_solve 7 = .ok (.iload_n 3, 1) := by decide +kernel
theorem dX8_solve_8 : decode cX8_solve 8 = .ok (.iload_n 2, 1) := by decide +kernel
theorem dX8_solve_9 : decode cX8_solve 9 = .ok (.isub, 1) := by decide +kernel
theorem dX8_solve_10 : decode cX8_solve 10 = .ok (.istore 4, 2) := by decide +kernel
theorem dX8_solve_12 : decode cX8_solve 12 = .ok (.iload_n 2, 1) := by decide +kernel
theorem dX8_solve_13 : decode cX8_solve 13 = .ok (.iconst 1, 1) := by decide +kernel
theorem dX8_solve_14 : decode cX8_solve 14 = .ok (.iadd, 1) := by decide +kernel
theorem dX8_solve_15 : decode cX8_solve 15 = .ok (.istore 5, 2) := by decide +kernel
theorem dX8_solve_17 : decode cX8_solve 17 = .ok (.iconst 0, 1) := by decide +kernel
theorem dX8_solve_18 : decode cX8_solve 18 = .ok (.istore 6, 2) := by decide +kernel
theorem dX8_solve_20 : decode cX8_solve 20 = .ok (.iload 6, 2) := by decide +kernel
theorem dX8_solve_22 : decode cX8_solve 22 = .ok (.iload 4, 2) := by decide +kernel
theorem dX8_solve_24 : decode cX8_solve 24 = .ok (.if_icmp .ge 84, 3) := by decide +kernel
theorem dX8_solve_27 : decode cX8_solve 27 = .ok (.iconst 1, 1) := by decide +kernel
theorem dX8_solve_28 : decode cX8_solve 28 = .ok (.istore 7, 2) := by decide +kernel
theorem dX8_solve_30 : decode cX8_solve 30 = .ok (.iload 7, 2) := by decide +kernel
theorem dX8_solve_32 : decode cX8_solve 32 = .ok (.iload_n 2, 1) := by decide +kernel
theorem dX8_solve_33 : decode cX8_solve 33 = .ok (.if_icmp .gt 42, 3) := by decide +kernel
theorem dX8_solve_36 : decode cX8_solve 36 = .ok (.aload_n 0, 1) := by decide +kernel
theorem dX8_solve_37 : decode cX8_solve 37 = .ok (.getfield 75, 3) := by decide +kernel
theorem dX8_solve_40 : decode cX8_solve 40 = .ok (.iload 6, 2) := by decide +kernel
theorem dX8_solve_42 : decode cX8_solve 42 = .ok (.iload 5, 2) := by decide +kernel
theorem dX8_solve_44 : decode cX8_solve 44 = .ok (.imul, 1) := by decide +kernel
theorem dX8_solve_45 : decode cX8_solve 45 = .ok (.iload 7, 2) := by decide +kernel
theorem dX8_solve_47 : decode cX8_solve 47 = .ok (.iadd, 1) := by decide +kernel
theorem dX8_solve_48 : decode cX8_solve 48 = .ok (.iconst 1, 1) := by decide +kernel
theorem dX8_solve_49 : decode cX8_solve 49 = .ok (.isub, 1) := by decide +kernel
theorem dX8_solve_50 : decode cX8_solve 50 = .ok (.aload_n 0, 1) := by decide +kernel
theorem dX8_solve_51 : decode cX8_solve 51 = .ok (.getfield 53, 3) := by decide +kernel
theorem dX8_solve_54 : decode cX8_solve 54 = .ok (.sipush 200, 3) := by decide +kernel
theorem dX8_solve_57 : decode cX8_solve 57 = .ok (.iload_n 1, 1) := by decide +kernel
theorem dX8_solve_58 : decode cX8_solve 58 = .ok (.imul, 1) := by decide +kernel
theorem dX8_solve_59 : decode cX8_solve 59 = .ok (.iload_n 2, 1) := by decide +kernel
theorem dX8_solve_60 : decode cX8_solve 60 = .ok (.iadd, 1) := by decide +kernel
theorem dX8_solve_61 : decode cX8_solve 61 = .ok (.iload 6, 2) := by decide +kernel
theorem dX8_solve_63 : decode cX8_solve 63 = .ok (.iadd, 1) := by decide +kernel
theorem dX8_solve_64 : decode cX8_solve 64 = .ok (.iload 7, 2) := by decide +kernel
theorem dX8_solve_66 : decode cX8_solve 66 = .ok (.isub, 1) := by decide +kernel
theorem dX8_solve_67 : decode cX8_solve 67 = .ok (.iaload, 1) := by decide +kernel
theorem dX8_solve_68 : decode cX8_solve 68 = .ok (.iastore, 1) := by decide +kernel
theorem dX8_solve_69 : decode cX8_solve 69 = .ok (.iinc 7 1, 3) := by decide +kernel
theorem dX8_solve_72 : decode cX8_solve 72 = .ok (.goto (-42), 3) := by decide +kernel
theorem dX8_solve_75 : decode cX8_solve 75 = .ok (.aload_n 0, 1) := by decide +kernel
theorem dX8_solve_76 : decode cX8_solve 76 = .ok (.getfield 75, 3) := by decide +kernel
theorem dX8_solve_79 : decode cX8_solve 79 = .ok (.iload 6, 2) := by decide +kernel
theorem dX8_solve_81 : decode cX8_solve 81 = .ok (.iload 5, 2) := by decide +kernel
theorem dX8_solve_83 : decode cX8_solve 83 = .ok (.imul, 1) := by decide +kernel
theorem dX8_solve_84 : decode cX8_solve 84 = .ok (.iload_n 2, 1) := by decide +kernel
theorem dX8_solve_85 : decode cX8_solve 85 = .ok (.iadd, 1) := by decide +kernel
theorem dX8_solve_86 : decode cX8_solve 86 = .ok (.aload_n 0, 1) := by decide +kernel
theorem dX8_solve_87 : decode cX8_solve 87 = .ok (.getfield 53, 3) := by decide +kernel
theorem dX8_solve_90 : decode cX8_solve 90 = .ok (.sipush 200, 3) := by decide +kernel
theorem dX8_solve_93 : decode cX8_solve 93 = .ok (.iload_n 1, 1) := by decide +kernel
theorem dX8_solve_94 : decode cX8_solve 94 = .ok (.imul, 1) := by decide +kernel
theorem dX8_solve_95 : decode cX8_solve 95 = .ok (.iload_n 2, 1) := by decide +kernel
theorem dX8_solve_96 : decode cX8_solve 96 = .ok (.iadd, 1) := by decide +kernel
theorem dX8_solve_97 : decode cX8_solve 97 = .ok (.iload 6, 2) := by decide +kernel
theorem dX8_solve_99 : decode cX8_solve 99 = .ok (.iadd, 1) := by decide +kernel
theorem dX8_solve_100 : decode cX8_solve 100 = .ok (.iaload, 1) := by decide +kernel
theorem dX8_solve_101 : decode cX8_solve 101 = .ok (.iastore, 1) := by decide +kernel
theorem dX8_solve_102 : decode cX8_solve 102 = .ok (.iinc 6 1, 3) := by decide +kernel
theorem dX8_solve_105 : decode cX8_solve 105 = .ok (.goto (-85), 3) := by decide +kernel
theorem dX8_solve_108 : decode cX8_solve 108 = .ok (.iconst 0, 1) := by decide +kernel
theorem dX8_solve_109 : decode cX8_solve 109 = .ok (.istore 6, 2) := by decide +kernel
theorem dX8_solve_111 : decode cX8_solve 111 = .ok (.iload 6, 2) := by decide +kernel
theorem dX8_solve_113 : decode cX8_solve 113 = .ok (.iload_n 2, 1) := by decide +kernel
theorem dX8_solve_114 : decode cX8_solve 114 = .ok (.if_icmp .gt 25, 3) := by decide +kernel
theorem dX8_solve_117 : decode cX8_solve 117 = .ok (.aload_n 0, 1) := by decide +kernel
theorem dX8_solve_118 : decode cX8_solve 118 = .ok (.getfield 62, 3) := by decide +kernel
theorem dX8_solve_121 : decode cX8_solve 121 = .ok (.iload 6, 2) := by decide +kernel
theorem dX8_solve_123 : decode cX8_solve 123 = .ok (.iconst 0, 1) := by decide +kernel
theorem dX8_solve_124 : decode cX8_solve 124 = .ok (.iastore, 1) := by decide +kernel
theorem dX8_solve_125 : decode cX8_solve 125 = .ok (.aload_n 0, 1) := by decide +kernel
theorem dX8_solve_126 : decode cX8_solve 126 = .ok (.getfield 71, 3) := by decide +kernel
theorem dX8_solve_129 : decode cX8_solve 129 = .ok (.iload 6, 2) := by decide +kernel
theorem dX8_solve_131 : decode cX8_solve 131 = .ok (.iconst (-1), 1) := by decide +kernel
theorem dX8_solve_132 : decode cX8_solve 132 = .ok (.iastore, 1) := by decide +kernel
theorem dX8_solve_133 : decode cX8_solve 133 = .ok (.iinc 6 1, 3) := by decide +kernel
theorem dX8_solve_136 : decode cX8_solve 136 = .ok (.goto (-25), 3) := by decide +kernel
theorem dX8_solve_139 : decode cX8_solve 139 = .ok (.iconst 0, 1) := by decide +kernel
theorem dX8_solve_140 : decode cX8_solve 140 = .ok (.istore 6, 2) := by decide +kernel
theorem dX8_solve_142 : decode cX8_solve 142 = .ok (.iload_n 2, 1) := by decide +kernel
theorem dX8_solve_143 : decode cX8_solve 143 = .ok (.iconst 1, 1) := by decide +kernel
theorem dX8_solve_144 : decode cX8_solve 144 = .ok (.isub, 1) := by decide +kernel
theorem dX8_solve_145 : decode cX8_solve 145 = .ok (.istore 7, 2) := by decide +kernel
theorem dX8_solve_147 : decode cX8_solve 147 = .ok (.iload 7, 2) := by decide +kernel
theorem dX8_solve_149 : decode cX8_solve 149 = .ok (.ifCond .lt 281, 3) := by decide +kernel
theorem dX8_solve_152 : decode cX8_solve 152 = .ok (.iload 6, 2) := by decide +kernel
theorem dX8_solve_154 : decode cX8_solve 154 = .ok (.istore 8, 2) := by decide +kernel
theorem dX8_solve_156 : decode cX8_solve 156 = .ok (.iload 8, 2) := by decide +kernel
theorem dX8_solve_158 : decode cX8_solve 158 = .ok (.iload 4, 2) := by decide +kernel
theorem dX8_solve_160 : decode cX8_solve 160 = .ok (.if_icmp .ge 25, 3) := by decide +kernel
theorem dX8_solve_163 : decode cX8_solve 163 = .ok (.aload_n 0, 1) := by decide +kernel
theorem dX8_solve_164 : decode cX8_solve 164 = .ok (.getfield 75, 3) := by decide +kernel
theorem dX8_solve_167 : decode cX8_solve 167 = .ok (.iload 8, 2) := by decide +kernel
theorem dX8_solve_169 : decode cX8_solve 169 = .ok (.iload 5, 2) := by decide +kernel
theorem dX8_solve_171 : decode cX8_solve 171 = .ok (.imul, 1) := by decide +kernel
theorem dX8_solve_172 : decode cX8_solve 172 = .ok (.iload 7, 2) := by decide +kernel
theorem dX8_solve_174 : decode cX8_solve 174 = .ok (.iadd, 1) := by decide +kernel
theorem dX8_solve_175 : decode cX8_solve 175 = .ok (.iaload, 1) := by decide +kernel
theorem dX8_solve_176 : decode cX8_solve 176 = .ok (.ifCond .ne 9, 3) := by decide +kernel
theorem dX8_solve_179 : decode cX8_solve 179 = .ok (.iinc 8 1, 3) := by decide +kernel
theorem dX8_solve_182 : decode cX8_solve 182 = .ok (.goto (-26), 3) := by decide +kernel
theorem dX8_solve_185 : decode cX8_solve 185 = .ok (.iload 8, 2) := by decide +kernel
theorem dX8_solve_187 : decode cX8_solve 187 = .ok (.iload 4, 2) := by decide +kernel
theorem dX8_solve_189 : decode cX8_solve 189 = .ok (.if_icmp .ge 235, 3) := by decide +kernel
theorem dX8_solve_192 : decode cX8_solve 192 = .ok (.aload_n 0, 1) := by decide +kernel
theorem dX8_solve_193 : decode cX8_solve 193 = .ok (.aload_n 0, 1) := by decide +kernel
theorem dX8_solve_194 : decode cX8_solve 194 = .ok (.getfield 75, 3) := by decide +kernel
theorem dX8_solve_197 : decode cX8_solve 197 = .ok (.iload 8, 2) := by decide +kernel
theorem dX8_solve_199 : decode cX8_solve 199 = .ok (.iload 5, 2) := by decide +kernel
theorem dX8_solve_201 : decode cX8_solve 201 = .ok (.imul, 1) := by decide +kernel
theorem dX8_solve_202 : decode cX8_solve 202 = .ok (.iload 7, 2) := by decide +kernel
theorem dX8_solve_204 : decode cX8_solve 204 = .ok (.iadd, 1) := by decide +kernel
theorem dX8_solve_205 : decode cX8_solve 205 = .ok (.iaload, 1) := by decide +kernel
theorem dX8_solve_206 : decode cX8_solve 206 = .ok (.invokevirtual 192, 3) := by decide +kernel
theorem dX8_solve_209 : decode cX8_solve 209 = .ok (.istore 9, 2) := by decide +kernel
theorem dX8_solve_211 : decode cX8_solve 211 = .ok (.iconst 0, 1) := by decide +kernel
theorem dX8_solve_212 : decode cX8_solve 212 = .ok (.istore 10, 2) := by decide +kernel
theorem dX8_solve_214 : decode cX8_solve 214 = .ok (.iload 10, 2) := by decide +kernel
theorem dX8_solve_216 : decode cX8_solve 216 = .ok (.iload 5, 2) := by decide +kernel
theorem dX8_solve_218 : decode cX8_solve 218 = .ok (.if_icmp .ge 73, 3) := by decide +kernel
theorem dX8_solve_221 : decode cX8_solve 221 = .ok (.aload_n 0, 1) := by decide +kernel
theorem dX8_solve_222 : decode cX8_solve 222 = .ok (.getfield 75, 3) := by decide +kernel
theorem dX8_solve_225 : decode cX8_solve 225 = .ok (.iload 8, 2) := by decide +kernel
theorem dX8_solve_227 : decode cX8_solve 227 = .ok (.iload 5, 2) := by decide +kernel
theorem dX8_solve_229 : decode cX8_solve 229 = .ok (.imul, 1) := by decide +kernel
theorem dX8_solve_230 : decode cX8_solve 230 = .ok (.iload 10, 2) := by decide +kernel
theorem dX8_solve_232 : decode cX8_solve 232 = .ok (.iadd, 1) := by decide +kernel
theorem dX8_solve_233 : decode cX8_solve 233 = .ok (.iaload, 1) := by decide +kernel
theorem dX8_solve_234 : decode cX8_solve 234 = .ok (.iload 9, 2) := by decide +kernel
theorem dX8_solve_236 : decode cX8_solve 236 = .ok (.imul, 1) := by decide +kernel
theorem dX8_solve_237 : decode cX8_solve 237 = .ok (.aload_n 0, 1) := by decide +kernel
theorem dX8_solve_238 : decode cX8_solve 238 = .ok (.getfield 92, 3) := by decide +kernel
theorem dX8_solve_241 : decode cX8_solve 241 = .ok (.irem, 1) := by decide +kernel
theorem dX8_solve_242 : decode cX8_solve 242 = .ok (.istore 11, 2) := by decide +kernel
theorem dX8_solve_244 : decode cX8_solve 244 = .ok (.aload_n 0, 1) := by decide +kernel
theorem dX8_solve_245 : decode cX8_solve 245 = .ok (.getfield 75, 3) := by decide +kernel
theorem dX8_solve_248 : decode cX8_solve 248 = .ok (.iload 8, 2) := by decide +kernel
theorem dX8_solve_250 : decode cX8_solve 250 = .ok (.iload 5, 2) := by decide +kernel
theorem dX8_solve_252 : decode cX8_solve 252 = .ok (.imul, 1) := by decide +kernel
theorem dX8_solve_253 : decode cX8_solve 253 = .ok (.iload 10, 2) := by decide +kernel
theorem dX8_solve_255 : decode cX8_solve 255 = .ok (.iadd, 1) := by decide +kernel
theorem dX8_solve_256 : decode cX8_solve 256 = .ok (.aload_n 0, 1) := by decide +kernel
theorem dX8_solve_257 : decode cX8_solve 257 = .ok (.getfield 75, 3) := by decide +kernel
theorem dX8_solve_260 : decode cX8_solve 260 = .ok (.iload 6, 2) := by decide +kernel
theorem dX8_solve_262 : decode cX8_solve 262 = .ok (.iload 5, 2) := by decide +kernel
theorem dX8_solve_264 : decode cX8_solve 264 = .ok (.imul, 1) := by decide +kernel
theorem dX8_solve_265 : decode cX8_solve 265 = .ok (.iload 10, 2) := by decide +kernel
theorem dX8_solve_267 : decode cX8_solve 267 = .ok (.iadd, 1) := by decide +kernel
theorem dX8_solve_268 : decode cX8_solve 268 = .ok (.iaload, 1) := by decide +kernel
theorem dX8_solve_269 : decode cX8_solve 269 = .ok (.iastore, 1) := by decide +kernel
theorem dX8_solve_270 : decode cX8_solve 270 = .ok (.aload_n 0, 1) := by decide +kernel
theorem dX8_solve_271 : decode cX8_solve 271 = .ok (.getfield 75, 3) := by decide +kernel
theorem dX8_solve_274 : decode cX8_solve 274 = .ok (.iload 6, 2) := by decide +kernel
theorem dX8_solve_276 : decode cX8_solve 276 = .ok (.iload 5, 2) := by decide +kernel
theorem dX8_solve_278 : decode cX8_solve 278 = .ok (.imul, 1) := by decide +kernel
theorem dX8_solve_279 : decode cX8_solve 279 = .ok (.iload 10, 2) := by decide +kernel
theorem dX8_solve_281 : decode cX8_solve 281 = .ok (.iadd, 1) := by decide +kernel
theorem dX8_solve_282 : decode cX8_solve 282 = .ok (.iload 11, 2) := by decide +kernel
theorem dX8_solve_284 : decode cX8_solve 284 = .ok (.iastore, 1) := by decide +kernel
theorem dX8_solve_285 : decode cX8_solve 285 = .ok (.iinc 10 1, 3) := by decide +kernel
theorem dX8_solve_288 : decode cX8_solve 288 = .ok (.goto (-74), 3) := by decide +kernel
theorem dX8_solve_291 : decode cX8_solve 291 = .ok (.iconst 0, 1) := by decide +kernel
theorem dX8_solve_292 : decode cX8_solve 292 = .ok (.istore 10, 2) := by decide +kernel
theorem dX8_solve_294 : decode cX8_solve 294 = .ok (.iload 10, 2) := by decide +kernel
theorem dX8_solve_296 : decode cX8_solve 296 = .ok (.iload 4, 2) := by decide +kernel
theorem dX8_solve_298 : decode cX8_solve 298 = .ok (.if_icmp .ge 114, 3) := by decide +kernel
theorem dX8_solve_301 : decode cX8_solve 301 = .ok (.iload 10, 2) := by decide +kernel
theorem dX8_solve_303 : decode cX8_solve 303 = .ok (.iload 6, 2) := by decide +kernel
theorem dX8_solve_305 : decode cX8_solve 305 = .ok (.if_icmp .ne 7, 3) := by decide +kernel
theorem dX8_solve_308 : decode cX8_solve 308 = .ok (.iconst 0, 1) := by decide +kernel
theorem dX8_solve_309 : decode cX8_solve 309 = .ok (.goto 21, 3) := by decide +kernel
theorem dX8_solve_312 : decode cX8_solve 312 = .ok (.aload_n 0, 1) := by decide +kernel
theorem dX8_solve_313 : decode cX8_solve 313 = .ok (.getfield 92, 3) := by decide +kernel
theorem dX8_solve_316 : decode cX8_solve 316 = .ok (.aload_n 0, 1) := by decide +kernel
theorem dX8_solve_317 : decode cX8_solve 317 = .ok (.getfield 75, 3) := by decide +kernel
theorem dX8_solve_320 : decode cX8_solve 320 = .ok (.iload 10, 2) := by decide +kernel
theorem dX8_solve_322 : decode cX8_solve 322 = .ok (.iload 5, 2) := by decide +kernel
theorem dX8_solve_324 : decode cX8_solve 324 = .ok (.imul, 1) := by decide +kernel
theorem dX8_solve_325 : decode cX8_solve 325 = .ok (.iload 7, 2) := by decide +kernel
theorem dX8_solve_327 : decode cX8_solve 327 = .ok (.iadd, 1) := by decide +kernel
theorem dX8_solve_328 : decode cX8_solve 328 = .ok (.iaload, 1) := by decide +kernel
theorem dX8_solve_329 : decode cX8_solve 329 = .ok (.isub, 1) := by decide +kernel
theorem dX8_solve_330 : decode cX8_solve 330 = .ok (.istore 11, 2) := by decide +kernel
theorem dX8_solve_332 : decode cX8_solve 332 = .ok (.iconst 0, 1) := by decide +kernel
theorem dX8_solve_333 : decode cX8_solve 333 = .ok (.istore 12, 2) := by decide +kernel
theorem dX8_solve_335 : decode cX8_solve 335 = .ok (.iload 12, 2) := by decide +kernel
theorem dX8_solve_337 : decode cX8_solve 337 = .ok (.iload 5, 2) := by decide +kernel
theorem dX8_solve_339 : decode cX8_solve 339 = .ok (.if_icmp .ge 67, 3) := by decide +kernel
theorem dX8_solve_342 : decode cX8_solve 342 = .ok (.iload 11, 2) := by decide +kernel
theorem dX8_solve_344 : decode cX8_solve 344 = .ok (.aload_n 0, 1) := by decide +kernel
theorem dX8_solve_345 : decode cX8_solve 345 = .ok (.getfield 92, 3) := by decide +kernel
theorem dX8_solve_348 : decode cX8_solve 348 = .ok (.irem, 1) := by decide +kernel
theorem dX8_solve_349 : decode cX8_solve 349 = .ok (.ifCond .eq 57, 3) := by decide +kernel
theorem dX8_solve_352 : decode cX8_solve 352 = .ok (.aload_n 0, 1) := by decide +kernel
theorem dX8_solve_353 : decode cX8_solve 353 = .ok (.getfield 75, 3) := by decide +kernel
theorem dX8_solve_356 : decode cX8_solve 356 = .ok (.iload 10, 2) := by decide +kernel
theorem dX8_solve_358 : decode cX8_solve 358 = .ok (.iload 5, 2) := by decide +kernel
theorem dX8_solve_360 : decode cX8_solve 360 = .ok (.imul, 1) := by decide +kernel
theorem dX8_solve_361 : decode cX8_solve 361 = .ok (.iload 12, 2) := by decide +kernel
theorem dX8_solve_363 : decode cX8_solve 363 = .ok (.iadd, 1) := by decide +kernel
theorem dX8_solve_364 : decode cX8_solve 364 = .ok (.aload_n 0, 1) := by decide +kernel
theorem dX8_solve_365 : decode cX8_solve 365 = .ok (.getfield 75, 3) := by decide +kernel
theorem dX8_solve_368 : decode cX8_solve 368 = .ok (.iload 10, 2) := by decide +kernel
theorem dX8_solve_370 : decode cX8_solve 370 = .ok (.iload 5, 2) := by decide +kernel
theorem dX8_solve_372 : decode cX8_solve 372 = .ok (.imul, 1) := by decide +kernel
theorem dX8_solve_373 : decode cX8_solve 373 = .ok (.iload 12, 2) := by decide +kernel
theorem dX8_solve_375 : decode cX8_solve 375 = .ok (.iadd, 1) := by decide +kernel
theorem dX8_solve_376 : decode cX8_solve 376 = .ok (.iaload, 1) := by decide +kernel
theorem dX8_solve_377 : decode cX8_solve 377 = .ok (.iload 11, 2) := by decide +kernel
theorem dX8_solve_379 : decode cX8_solve 379 = .ok (.aload_n 0, 1) := by decide +kernel
theorem dX8_solve_380 : decode cX8_solve 380 = .ok (.getfield 75, 3) := by decide +kernel
theorem dX8_solve_383 : decode cX8_solve 383 = .ok (.iload 6, 2) := by decide +kernel
theorem dX8_solve_385 : decode cX8_solve 385 = .ok (.iload 5, 2) := by decide +kernel
theorem dX8_solve_387 : decode cX8_solve 387 = .ok (.imul, 1) := by decide +kernel
theorem dX8_solve_388 : decode cX8_solve 388 = .ok (.iload 12, 2) := by decide +kernel
theorem dX8_solve_390 : decode cX8_solve 390 = .ok (.iadd, 1) := by decide +kernel
theorem dX8_solve_391 : decode cX8_solve 391 = .ok (.iaload, 1) := by decide +kernel
theorem dX8_solve_392 : decode cX8_solve 392 = .ok (.imul, 1) := by decide +kernel
theorem dX8_solve_393 : decode cX8_solve 393 = .ok (.iadd, 1) := by decide +kernel
theorem dX8_solve_394 : decode cX8_solve 394 = .ok (.aload_n 0, 1) := by decide +kernel
theorem dX8_solve_395 : decode cX8_solve 395 = .ok (.getfield 92, 3) := by decide +kernel
theorem dX8_solve_398 : decode cX8_solve 398 = .ok (.irem, 1) := by decide +kernel
theorem dX8_solve_399 : decode cX8_solve 399 = .ok (.iastore, 1) := by decide +kernel
theorem dX8_solve_400 : decode cX8_solve 400 = .ok (.iinc 12 1, 3) := by decide +kernel
theorem dX8_solve_403 : decode cX8_solve 403 = .ok (.goto (-68), 3) := by decide +kernel
theorem dX8_solve_406 : decode cX8_solve 406 = .ok (.iinc 10 1, 3) := by decide +kernel
theorem dX8_solve_409 : decode cX8_solve 409 = .ok (.goto (-115), 3) := by decide +kernel
theorem dX8_solve_412 : decode cX8_solve 412 = .ok (.aload_n 0, 1) := by decide +kernel
theorem dX8_solve_413 : decode cX8_solve 413 = .ok (.getfield 71, 3) := by decide +kernel
theorem dX8_solve_416 : decode cX8_solve 416 = .ok (.iload 7, 2) := by decide +kernel
theorem dX8_solve_418 : decode cX8_solve 418 = .ok (.iload 6, 2) := by decide +kernel
theorem dX8_solve_420 : decode cX8_solve 420 = .ok (.iastore, 1) := by decide +kernel
theorem dX8_solve_421 : decode cX8_solve 421 = .ok (.iinc 6 1, 3) := by decide +kernel
theorem dX8_solve_424 : decode cX8_solve 424 = .ok (.iinc 7 (-1), 3) := by decide +kernel
theorem dX8_solve_427 : decode cX8_solve 427 = .ok (.goto (-280), 3) := by decide +kernel
theorem dX8_solve_430 : decode cX8_solve 430 = .ok (.iconst 0, 1) := by decide +kernel
theorem dX8_solve_431 : decode cX8_solve 431 = .ok (.istore 7, 2) := by decide +kernel
theorem dX8_solve_433 : decode cX8_solve 433 = .ok (.iload 7, 2) := by decide +kernel
theorem dX8_solve_435 : decode cX8_solve 435 = .ok (.iload_n 2, 1) := by decide +kernel
theorem dX8_solve_436 : decode cX8_solve 436 = .ok (.if_icmp .ge 50, 3) := by decide +kernel
theorem dX8_solve_439 : decode cX8_solve 439 = .ok (.aload_n 0, 1) := by decide +kernel
theorem dX8_solve_440 : decode cX8_solve 440 = .ok (.getfield 62, 3) := by decide +kernel
theorem dX8_solve_443 : decode cX8_solve 443 = .ok (.iload 7, 2) := by decide +kernel
theorem dX8_solve_445 : decode cX8_solve 445 = .ok (.iconst 1, 1) := by decide +kernel
theorem dX8_solve_446 : decode cX8_solve 446 = .ok (.iadd, 1) := by decide +kernel
theorem dX8_solve_447 : decode cX8_solve 447 = .ok (.aload_n 0, 1) := by decide +kernel
theorem dX8_solve_448 : decode cX8_solve 448 = .ok (.getfield 71, 3) := by decide +kernel
theorem dX8_solve_451 : decode cX8_solve 451 = .ok (.iload 7, 2) := by decide +kernel
theorem dX8_solve_453 : decode cX8_solve 453 = .ok (.iaload, 1) := by decide +kernel
theorem dX8_solve_454 : decode cX8_solve 454 = .ok (.iconst (-1), 1) := by decide +kernel
theorem dX8_solve_455 : decode cX8_solve 455 = .ok (.if_icmp .ne 7, 3) := by decide +kernel
theorem dX8_solve_458 : decode cX8_solve 458 = .ok (.iconst 0, 1) := by decide +kernel
theorem dX8_solve_459 : decode cX8_solve 459 = .ok (.goto 20, 3) := by decide +kernel
theorem dX8_solve_462 : decode cX8_solve 462 = .ok (.aload_n 0, 1) := by decide +kernel
theorem dX8_solve_463 : decode cX8_solve 463 = .ok (.getfield 75, 3) := by decide +kernel
theorem dX8_solve_466 : decode cX8_solve 466 = .ok (.aload_n 0, 1) := by decide +kernel
theorem dX8_solve_467 : decode cX8_solve 467 = .ok (.getfield 71, 3) := by decide +kernel
theorem dX8_solve_470 : decode cX8_solve 470 = .ok (.iload 7, 2) := by decide +kernel
theorem dX8_solve_472 : decode cX8_solve 472 = .ok (.iaload, 1) := by decide +kernel
theorem dX8_solve_473 : decode cX8_solve 473 = .ok (.iload 5, 2) := by decide +kernel
theorem dX8_solve_475 : decode cX8_solve 475 = .ok (.imul, 1) := by decide +kernel
theorem dX8_solve_476 : decode cX8_solve 476 = .ok (.iload_n 2, 1) := by decide +kernel
theorem dX8_solve_477 : decode cX8_solve 477 = .ok (.iadd, 1) := by decide +kernel
theorem dX8_solve_478 : decode cX8_solve 478 = .ok (.iaload, 1) := by decide +kernel
theorem dX8_solve_479 : decode cX8_solve 479 = .ok (.iastore, 1) := by decide +kernel
theorem dX8_solve_480 : decode cX8_solve 480 = .ok (.iinc 7 1, 3) := by decide +kernel
theorem dX8_solve_483 : decode cX8_solve 483 = .ok (.goto (-50), 3) := by decide +kernel
theorem dX8_solve_486 : decode cX8_solve 486 = .ok (.return_, 1) := by decide +kernel
theorem dX8_recurrence_0 : decode cX8_recurrence 0 = .ok (.iload_n 1, 1) := by decide +kernel
theorem dX8_recurrence_1 : decode cX8_recurrence 1 = .ok (.invokestatic 168, 3) := by decide +kernel
theorem dX8_recurrence_4 : decode cX8_recurrence 4 = .ok (.ifCond .ne 6, 3) := by decide +kernel
theorem dX8_recurrence_7 : decode cX8_recurrence 7 = .ok (.bipush (-2), 2) := by decide +kernel
theorem dX8_recurrence_9 : decode cX8_recurrence 9 = .ok (.ireturn, 1) := by decide +kernel
theorem dX8_recurrence_10 : decode cX8_recurrence 10 = .ok (.aload_n 0, 1) := by decide +kernel
theorem dX8_recurrence_11 : decode cX8_recurrence 11 = .ok (.getfield 47, 3) := by decide +kernel
theorem dX8_recurrence_14 : decode cX8_recurrence 14 = .ok (.iload_n 1, 1) := by decide +kernel
theorem dX8_recurrence_15 : decode cX8_recurrence 15 = .ok (.iaload, 1) := by decide +kernel
theorem dX8_recurrence_16 : decode cX8_recurrence 16 = .ok (.ifCond .ge 9, 3) := by decide +kernel
theorem dX8_recurrence_19 : decode cX8_recurrence 19 = .ok (.aload_n 0, 1) := by decide +kernel
theorem dX8_recurrence_20 : decode cX8_recurrence 20 = .ok (.iconst 1, 1) := by decide +kernel
theorem dX8_recurrence_21 : decode cX8_recurrence 21 = .ok (.invokevirtual 171, 3) := by decide +kernel
theorem dX8_recurrence_24 : decode cX8_recurrence 24 = .ok (.ireturn, 1) := by decide +kernel
theorem dX8_recurrence_25 : decode cX8_recurrence 25 = .ok (.aload_n 0, 1) := by decide +kernel
theorem dX8_recurrence_26 : decode cX8_recurrence 26 = .ok (.getfield 92, 3) := by decide +kernel
theorem dX8_recurrence_29 : decode cX8_recurrence 29 = .ok (.iconst 4, 1) := by decide +kernel
theorem dX8_recurrence_30 : decode cX8_recurrence 30 = .ok (.if_icmp .eq 11, 3) := by decide +kernel
theorem dX8_recurrence_33 : decode cX8_recurrence 33 = .ok (.aload_n 0, 1) := by decide +kernel
theorem dX8_recurrence_34 : decode cX8_recurrence 34 = .ok (.iload_n 1, 1) := by decide +kernel
theorem dX8_recurrence_35 : decode cX8_recurrence 35 = .ok (.invokevirtual 186, 3) := by decide +kernel
theorem dX8_recurrence_38 : decode cX8_recurrence 38 = .ok (.ifCond .eq 6, 3) := by decide +kernel
theorem dX8_recurrence_41 : decode cX8_recurrence 41 = .ok (.bipush (-3), 2) := by decide +kernel
theorem dX8_recurrence_43 : decode cX8_recurrence 43 = .ok (.ireturn, 1) := by decide +kernel
theorem dX8_recurrence_44 : decode cX8_recurrence 44 = .ok (.aload_n 0, 1) := by decide +kernel
theorem dX8_recurrence_45 : decode cX8_recurrence 45 = .ok (.aload_n 0, 1) := by decide +kernel
theorem dX8_recurrence_46 : decode cX8_recurrence 46 = .ok (.iload_n 1, 1) := by decide +kernel
theorem dX8_recurrence_47 : decode cX8_recurrence 47 = .ok (.invokevirtual 195, 3) := by decide +kernel
theorem dX8_recurrence_50 : decode cX8_recurrence 50 = .ok (.putfield 198, 3) := by decide +kernel
theorem dX8_recurrence_53 : decode cX8_recurrence 53 = .ok (.aload_n 0, 1) := by decide +kernel
theorem dX8_recurrence_54 : decode cX8_recurrence 54 = .ok (.iload_n 1, 1) := by decide +kernel
theorem dX8_recurrence_55 : decode cX8_recurrence 55 = .ok (.aload_n 0, 1) := by decide +kernel
theorem dX8_recurrence_56 : decode cX8_recurrence 56 = .ok (.getfield 198, 3) := by decide +kernel
theorem dX8_recurrence_59 : decode cX8_recurrence 59 = .ok (.invokevirtual 201, 3) := by decide +kernel
theorem dX8_recurrence_62 : decode cX8_recurrence 62 = .ok (.aload_n 0, 1) := by decide +kernel
theorem dX8_recurrence_63 : decode cX8_recurrence 63 = .ok (.getfield 198, 3) := by decide +kernel
theorem dX8_recurrence_66 : decode cX8_recurrence 66 = .ok (.ireturn, 1) := by decide +kernel
theorem dX8_coefficient_0 : decode cX8_coefficient 0 = .ok (.iload_n 1, 1) := by decide +kernel
theorem dX8_coefficient_1 : decode cX8_coefficient 1 = .ok (.i2l, 1) := by decide +kernel
theorem dX8_coefficient_2 : decode cX8_coefficient 2 = .ok (.lconst 1, 1) := by decide +kernel
theorem dX8_coefficient_3 : decode cX8_coefficient 3 = .ok (.aload_n 0, 1) := by decide +kernel
theorem dX8_coefficient_4 : decode cX8_coefficient 4 = .ok (.getfield 198, 3) := by decide +kernel
theorem dX8_coefficient_7 : decode cX8_coefficient 7 = .ok (.i2l, 1) := by decide +kernel
theorem dX8_coefficient_8 : decode cX8_coefficient 8 = .ok (.invokestatic 86, 3) := by decide +kernel
theorem dX8_coefficient_11 : decode cX8_coefficient 11 = .ok (.ifCond .eq 12, 3) := by decide +kernel
theorem dX8_coefficient_14 : decode cX8_coefficient 14 = .ok (.aload_n 0, 1) := by decide +kernel
theorem dX8_coefficient_15 : decode cX8_coefficient 15 = .ok (.getfield 62, 3) := by decide +kernel
theorem dX8_coefficient_18 : decode cX8_coefficient 18 = .ok (.iload_n 1, 1) := by decide +kernel
theorem dX8_coefficient_19 : decode cX8_coefficient 19 = .ok (.iaload, 1) := by decide +kernel
theorem dX8_coefficient_20 : decode cX8_coefficient 20 = .ok (.goto 5, 3) := by decide +kernel
theorem dX8_coefficient_23 : decode cX8_coefficient 23 = .ok (.bipush (-2), 2) := by decide +kernel
theorem dX8_coefficient_25 : decode cX8_coefficient 25 = .ok (.ireturn, 1) := by decide +kernel
theorem dX8_count_0 : decode cX8_count 0 = .ok (.iload_n 1, 1) := by decide +kernel
theorem dX8_count_1 : decode cX8_count 1 = .ok (.tableswitch 69 0 5 #[39, 44, 49, 54, 59, 64], 39) := by decide +kernel
theorem dX8_count_40 : decode cX8_count 40 = .ok (.aload_n 0, 1) := by decide +kernel
theorem dX8_count_41 : decode cX8_count 41 = .ok (.getfield 92, 3) := by decide +kernel
theorem dX8_count_44 : decode cX8_count 44 = .ok (.ireturn, 1) := by decide +kernel
theorem dX8_count_45 : decode cX8_count 45 = .ok (.aload_n 0, 1) := by decide +kernel
theorem dX8_count_46 : decode cX8_count 46 = .ok (.getfield 96, 3) := by decide +kernel
theorem dX8_count_49 : decode cX8_count 49 = .ok (.ireturn, 1) := by decide +kernel
theorem dX8_count_50 : decode cX8_count 50 = .ok (.aload_n 0, 1) := by decide +kernel
theorem dX8_count_51 : decode cX8_count 51 = .ok (.getfield 99, 3) := by decide +kernel
theorem dX8_count_54 : decode cX8_count 54 = .ok (.ireturn, 1) := by decide +kernel
theorem dX8_count_55 : decode cX8_count 55 = .ok (.aload_n 0, 1) := by decide +kernel
theorem dX8_count_56 : decode cX8_count 56 = .ok (.getfield 133, 3) := by decide +kernel
theorem dX8_count_59 : decode cX8_count 59 = .ok (.ireturn, 1) := by decide +kernel
theorem dX8_count_60 : decode cX8_count 60 = .ok (.aload_n 0, 1) := by decide +kernel
theorem dX8_count_61 : decode cX8_count 61 = .ok (.getfield 112, 3) := by decide +kernel
theorem dX8_count_64 : decode cX8_count 64 = .ok (.ireturn, 1) := by decide +kernel
theorem dX8_count_65 : decode cX8_count 65 = .ok (.aload_n 0, 1) := by decide +kernel
theorem dX8_count_66 : decode cX8_count 66 = .ok (.getfield 163, 3) := by decide +kernel
theorem dX8_count_69 : decode cX8_count 69 = .ok (.ireturn, 1) := by decide +kernel
theorem dX8_count_70 : decode cX8_count 70 = .ok (.bipush (-2), 2) := by decide +kernel
theorem dX8_count_72 : decode cX8_count 72 = .ok (.ireturn, 1) := by decide +kernel
theorem dX8_digest_0 : decode cX8_digest 0 = .ok (.ldc2_w 204, 3) := by decide +kernel
theorem dX8_digest_3 : decode cX8_digest 3 = .ok (.lstore_n 1, 1) := by decide +kernel
theorem dX8_digest_4 : decode cX8_digest 4 = .ok (.iconst 0, 1) := by decide +kernel
theorem dX8_digest_5 : decode cX8_digest 5 = .ok (.istore_n 3, 1) := by decide +kernel
theorem dX8_digest_6 : decode cX8_digest 6 = .ok (.iload_n 3, 1) := by decide +kernel
theorem dX8_digest_7 : decode cX8_digest 7 = .ok (.iconst 5, 1) := by decide +kernel
theorem dX8_digest_8 : decode cX8_digest 8 = .ok (.if_icmp .ge 22, 3) := by decide +kernel
theorem dX8_digest_11 : decode cX8_digest 11 = .ok (.ldc2_w 206, 3) := by decide +kernel
theorem dX8_digest_14 : decode cX8_digest 14 = .ok (.lload_n 1, 1) := by decide +kernel
theorem dX8_digest_15 : decode cX8_digest 15 = .ok (.lmul, 1) := by decide +kernel
theorem dX8_digest_16 : decode cX8_digest 16 = .ok (.aload_n 0, 1) := by decide +kernel
theorem dX8_digest_17 : decode cX8_digest 17 = .ok (.iload_n 3, 1) := by decide +kernel
theorem dX8_digest_18 : decode cX8_digest 18 = .ok (.invokevirtual 208, 3) := by decide +kernel
theorem dX8_digest_21 : decode cX8_digest 21 = .ok (.i2l, 1) := by decide +kernel
theorem dX8_digest_22 : decode cX8_digest 22 = .ok (.ladd, 1) := by decide +kernel
theorem dX8_digest_23 : decode cX8_digest 23 = .ok (.lstore_n 1, 1) := by decide +kernel
theorem dX8_digest_24 : decode cX8_digest 24 = .ok (.iinc 3 1, 3) := by decide +kernel
theorem dX8_digest_27 : decode cX8_digest 27 = .ok (.goto (-21), 3) := by decide +kernel
theorem dX8_digest_30 : decode cX8_digest 30 = .ok (.iconst 0, 1) := by decide +kernel
theorem dX8_digest_31 : decode cX8_digest 31 = .ok (.istore_n 3, 1) := by decide +kernel
theorem dX8_digest_32 : decode cX8_digest 32 = .ok (.iload_n 3, 1) := by decide +kernel
theorem dX8_digest_33 : decode cX8_digest 33 = .ok (.aload_n 0, 1) := by decide +kernel
theorem dX8_digest_34 : decode cX8_digest 34 = .ok (.getfield 99, 3) := by decide +kernel
theorem dX8_digest_37 : decode cX8_digest 37 = .ok (.if_icmp .ge 23, 3) := by decide +kernel
theorem dX8_digest_40 : decode cX8_digest 40 = .ok (.ldc2_w 206, 3) := by decide +kernel
theorem dX8_digest_43 : decode cX8_digest 43 = .ok (.lload_n 1, 1) := by decide +kernel
theorem dX8_digest_44 : decode cX8_digest 44 = .ok (.lmul, 1) := by decide +kernel
theorem dX8_digest_45 : decode cX8_digest 45 = .ok (.aload_n 0, 1) := by decide +kernel
theorem dX8_digest_46 : decode cX8_digest 46 = .ok (.getfield 22, 3) := by decide +kernel
theorem dX8_digest_49 : decode cX8_digest 49 = .ok (.iload_n 3, 1) := by decide +kernel
theorem dX8_digest_50 : decode cX8_digest 50 = .ok (.iaload, 1) := by decide +kernel
theorem dX8_digest_51 : decode cX8_digest 51 = .ok (.i2l, 1) := by decide +kernel
theorem dX8_digest_52 : decode cX8_digest 52 = .ok (.ladd, 1) := by decide +kernel
theorem dX8_digest_53 : decode cX8_digest 53 = .ok (.lstore_n 1, 1) := by decide +kernel
theorem dX8_digest_54 : decode cX8_digest 54 = .ok (.iinc 3 1, 3) := by decide +kernel
theorem dX8_digest_57 : decode cX8_digest 57 = .ok (.goto (-25), 3) := by decide +kernel
theorem dX8_digest_60 : decode cX8_digest 60 = .ok (.iconst 0, 1) := by decide +kernel
theorem dX8_digest_61 : decode cX8_digest 61 = .ok (.istore_n 3, 1) := by decide +kernel
theorem dX8_digest_62 : decode cX8_digest 62 = .ok (.iload_n 3, 1) := by decide +kernel
theorem dX8_digest_63 : decode cX8_digest 63 = .ok (.aload_n 0, 1) := by decide +kernel
theorem dX8_digest_64 : decode cX8_digest 64 = .ok (.getfield 99, 3) := by decide +kernel
theorem dX8_digest_67 : decode cX8_digest 67 = .ok (.if_icmp .ge 31, 3) := by decide +kernel
theorem dX8_digest_70 : decode cX8_digest 70 = .ok (.aload_n 0, 1) := by decide +kernel
theorem dX8_digest_71 : decode cX8_digest 71 = .ok (.getfield 112, 3) := by decide +kernel
theorem dX8_digest_74 : decode cX8_digest 74 = .ok (.iconst (-1), 1) := by decide +kernel
theorem dX8_digest_75 : decode cX8_digest 75 = .ok (.if_icmp .eq 23, 3) := by decide +kernel
theorem dX8_digest_78 : decode cX8_digest 78 = .ok (.ldc2_w 206, 3) := by decide +kernel
theorem dX8_digest_81 : decode cX8_digest 81 = .ok (.lload_n 1, 1) := by decide +kernel
theorem dX8_digest_82 : decode cX8_digest 82 = .ok (.lmul, 1) := by decide +kernel
theorem dX8_digest_83 : decode cX8_digest 83 = .ok (.aload_n 0, 1) := by decide +kernel
theorem dX8_digest_84 : decode cX8_digest 84 = .ok (.getfield 41, 3) := by decide +kernel
theorem dX8_digest_87 : decode cX8_digest 87 = .ok (.iload_n 3, 1) := by decide +kernel
theorem dX8_digest_88 : decode cX8_digest 88 = .ok (.iaload, 1) := by decide +kernel
theorem dX8_digest_89 : decode cX8_digest 89 = .ok (.i2l, 1) := by decide +kernel
theorem dX8_digest_90 : decode cX8_digest 90 = .ok (.ladd, 1) := by decide +kernel
theorem dX8_digest_91 : decode cX8_digest 91 = .ok (.lstore_n 1, 1) := by decide +kernel
theorem dX8_digest_92 : decode cX8_digest 92 = .ok (.iinc 3 1, 3) := by decide +kernel
theorem dX8_digest_95 : decode cX8_digest 95 = .ok (.goto (-33), 3) := by decide +kernel
theorem dX8_digest_98 : decode cX8_digest 98 = .ok (.lload_n 1, 1) := by decide +kernel
theorem dX8_digest_99 : decode cX8_digest 99 = .ok (.lreturn, 1) := by decide +kernel
end
section
theorem V_inc {G : gx} {y : my} {b : bg} {pc : Nat} {L : List (Option Value)} {S : List Value} {h : ah} {Q : Option Value → ah → Prop} {i : Nat} {n : Int} {x v : Int32} (hd : decode y.2.1 pc = .ok (.iinc i n, 3)) (hv : Int32.ofInt n = v) (hg : L[i]? = some (some (.int x))) (hn : i < y.2.2.1) (k : V G y b (pc + 3) (st1 i (.int (x + v)) L) S h Q) : V G y b pc L S h Q := V_iinc hd hg hn (by rw [hv]; exact k)
theorem ic_m1 : Int32.ofInt (-1) = (-1 : Int32) := by decide +kernel
theorem ic_0 : Int32.ofInt 0 = (0 : Int32) := by decide +kernel
theorem ic_1 : Int32.ofInt 1 = (1 : Int32) := by decide +kernel
theorem ic_2 : Int32.ofInt 2 = (2 : Int32) := by decide +kernel
theorem ic_3 : Int32.ofInt 3 = (3 : Int32) := by decide +kernel
theorem ic_4 : Int32.ofInt 4 = (4 : Int32) := by decide +kernel
theorem ic_5 : Int32.ofInt 5 = (5 : Int32) := by decide +kernel
theorem bp_m10 : (Int8.ofInt (-10)).toInt32 = (-10 : Int32) := by decide +kernel
theorem bp_m4 : (Int8.ofInt (-4)).toInt32 = (-4 : Int32) := by decide +kernel
theorem bp_m3 : (Int8.ofInt (-3)).toInt32 = (-3 : Int32) := by decide +kernel
theorem bp_m2 : (Int8.ofInt (-2)).toInt32 = (-2 : Int32) := by decide +kernel
theorem bp_6 : (Int8.ofInt (6)).toInt32 = (6 : Int32) := by decide +kernel
theorem bp_8 : (Int8.ofInt (8)).toInt32 = (8 : Int32) := by decide +kernel
theorem bp_14 : (Int8.ofInt (14)).toInt32 = (14 : Int32) := by decide +kernel
theorem bp_15 : (Int8.ofInt (15)).toInt32 = (15 : Int32) := by decide +kernel
theorem bp_16 : (Int8.ofInt (16)).toInt32 = (16 : Int32) := by decide +kernel
theorem bp_32 : (Int8.ofInt (32)).toInt32 = (32 : Int32) := by decide +kernel
theorem bp_40 : (Int8.ofInt (40)).toInt32 = (40 : Int32) := by decide +kernel
theorem bp_63 : (Int8.ofInt (63)).toInt32 = (63 : Int32) := by decide +kernel
theorem bp_127 : (Int8.ofInt (127)).toInt32 = (127 : Int32) := by decide +kernel
theorem sp_200 : (Int16.ofInt (200)).toInt32 = (200 : Int32) := by decide +kernel
theorem sp_201 : (Int16.ofInt (201)).toInt32 = (201 : Int32) := by decide +kernel
theorem sp_202 : (Int16.ofInt (202)).toInt32 = (202 : Int32) := by decide +kernel
theorem sp_400 : (Int16.ofInt (400)).toInt32 = (400 : Int32) := by decide +kernel
theorem sp_401 : (Int16.ofInt (401)).toInt32 = (401 : Int32) := by decide +kernel
theorem sp_800 : (Int16.ofInt (800)).toInt32 = (800 : Int32) := by decide +kernel
theorem sp_1000 : (Int16.ofInt (1000)).toInt32 = (1000 : Int32) := by decide +kernel
theorem sp_20000 : (Int16.ofInt (20000)).toInt32 = (20000 : Int32) := by decide +kernel
theorem ic_6 : Int32.ofInt (6) = (6 : Int32) := by decide +kernel
theorem lc_0 : Int64.ofNat ((0 : Fin 2) : Nat) = (0 : Int64) := by decide +kernel
theorem lc_1 : Int64.ofNat ((1 : Fin 2) : Nat) = (1 : Int64) := by decide +kernel
end
section
/-! the trees of Words -/
theorem tX6_howMany_0 {G : gx} {b : bg} {h : ah} {Q : Option Value → ah → Prop} {x0 : Int32} {x1 : Int32} (q1 : (x0 < (2 : Int32)) → Q (some (.int (0 : Int32))) h) (q2 : (¬ x0 < (2 : Int32)) → ((5 : Int32) < x0) → Q (some (.int (0 : Int32))) h) (q3 : (¬ x0 < (2 : Int32)) → (¬ (5 : Int32) < x0) → (x1 < (1 : Int32)) → Q (some (.int (0 : Int32))) h) (q4 : (¬ x0 < (2 : Int32)) → (¬ (5 : Int32) < x0) → (¬ x1 < (1 : Int32)) → (x1 ≤ (14 : Int32)) → V G mX6_howMany b 27 [some (.int x0), some (.int x1), some (.int (1 : Int32)), some (.int (0 : Int32))] [] h Q) (q5 : (¬ x0 < (2 : Int32)) → (¬ (5 : Int32) < x0) → (¬ x1 < (1 : Int32)) → (¬ x1 ≤ (14 : Int32)) → Q (some (.int (0 : Int32))) h) : V G mX6_howMany b 0 [some (.int x0), some (.int x1)] [] h Q := by
  refine V_iload_n dX6_howMany_0 rfl rfl ?_
  refine V_iconst dX6_howMany_1 ic_2 ?_
  refine V_icmp_lt (t := 21) dX6_howMany_2 (by decide) (fun z1 => ?_) (fun z1 => ?_)
  ·
    refine V_iconst dX6_howMany_21 ic_0 ?_
    exact V_iret dX6_howMany_22 rfl (q1 z1)
  ·
    refine V_iload_n dX6_howMany_5 rfl rfl ?_
    refine V_iconst dX6_howMany_6 ic_5 ?_
    refine V_icmp_gt (t := 21) dX6_howMany_7 (by decide) (fun z2 => ?_) (fun z2 => ?_)
    ·
      refine V_iconst dX6_howMany_21 ic_0 ?_
      exact V_iret dX6_howMany_22 rfl (q2 z1 z2)
    ·
      refine V_iload_n dX6_howMany_10 rfl rfl ?_
      refine V_iconst dX6_howMany_11 ic_1 ?_
      refine V_icmp_lt (t := 21) dX6_howMany_12 (by decide) (fun z3 => ?_) (fun z3 => ?_)
      ·
        refine V_iconst dX6_howMany_21 ic_0 ?_
        exact V_iret dX6_howMany_22 rfl (q3 z1 z2 z3)
      ·
        refine V_iload_n dX6_howMany_15 rfl rfl ?_
        refine V_bipush dX6_howMany_16 bp_14 ?_
        refine V_icmp_le (t := 23) dX6_howMany_18 (by decide) (fun z4 => ?_) (fun z4 => ?_)
        ·
          refine V_iconst dX6_howMany_23 ic_1 ?_
          refine V_istore_n dX6_howMany_24 rfl (Nat.le_of_ble_eq_true rfl) ?_
          refine V_iconst dX6_howMany_25 ic_0 ?_
          refine V_istore_n dX6_howMany_26 rfl (Nat.le_of_ble_eq_true rfl) ?_
          exact V_sub (by exact (And.intro rfl (And.intro rfl (And.intro rfl (And.intro rfl True.intro))))) (q4 z1 z2 z3 z4)
        ·
          refine V_iconst dX6_howMany_21 ic_0 ?_
          exact V_iret dX6_howMany_22 rfl (q5 z1 z2 z3 z4)
theorem tX6_howMany_27 {G : gx} {b : bg} {h : ah} {Q : Option Value → ah → Prop} {x0 : Int32} {x1 : Int32} {x2 : Int32} {x3 : Int32} (q1 : (x1 ≤ x3) → Q (some (.int x2)) h) (q2 : (¬ x1 ≤ x3) → ((x2 * x0) ≤ (20000 : Int32)) → V G mX6_howMany b 27 [some (.int x0), some (.int x1), some (.int (x2 * x0)), some (.int (x3 + (1 : Int32)))] [] h Q) (q3 : (¬ x1 ≤ x3) → (¬ (x2 * x0) ≤ (20000 : Int32)) → Q (some (.int (0 : Int32))) h) : V G mX6_howMany b 27 [some (.int x0), some (.int x1), some (.int x2), some (.int x3)] [] h Q := by
  refine V_iload_n dX6_howMany_27 rfl rfl ?_
  refine V_iload_n dX6_howMany_28 rfl rfl ?_
  refine V_icmp_ge (t := 51) dX6_howMany_29 (by decide) (fun z1 => ?_) (fun z1 => ?_)
  ·
    refine V_iload_n dX6_howMany_51 rfl rfl ?_
    exact V_iret dX6_howMany_52 rfl (q1 z1)
  ·
    refine V_iload_n dX6_howMany_32 rfl rfl ?_
    refine V_iload_n dX6_howMany_33 rfl rfl ?_
    refine V_imul dX6_howMany_34 ?_
    refine V_istore_n dX6_howMany_35 rfl (Nat.le_of_ble_eq_true rfl) ?_
    refine V_iload_n dX6_howMany_36 rfl rfl ?_
    refine V_sipush dX6_howMany_37 sp_20000 ?_
    refine V_icmp_le (t := 45) dX6_howMany_40 (by decide) (fun z2 => ?_) (fun z2 => ?_)
    ·
      refine V_inc dX6_howMany_45 ic_1 rfl (Nat.le_of_ble_eq_true rfl) ?_
      refine V_goto (t := 27) dX6_howMany_48 (by decide) ?_
      exact V_sub (by exact (And.intro rfl (And.intro rfl (And.intro rfl (And.intro rfl True.intro))))) (q2 z1 z2)
    ·
      refine V_iconst dX6_howMany_43 ic_0 ?_
      exact V_iret dX6_howMany_44 rfl (q3 z1 z2)
theorem tX6_become_0 {G : gx} {b : bg} {h : ah} {Q : Option Value → ah → Prop} {x1 : Int32} {x2 : Int32} {wletters : Int32} {wlength : Int32} {wall : Int32} {whigh : Int32} {wpower : Nat → Int32} (g3 : h 3 = (6, .inl [.ref 4, .int wletters, .int wlength, .int wall, .int whigh])) (g4 : h 4 = (0, .inr (15, .inl wpower))) (q1 : vp_in (0 : Int32) 15) (q2 : V G mX6_become b 19 [some (.ref 3), some (.int x1), some (.int x2), some (.int (1 : Int32))] [] (va_up (va_up (va_up h 3 (6, .inl [.ref 4, .int x1, .int wlength, .int wall, .int whigh])) 3 (6, .inl [.ref 4, .int x1, .int x2, .int wall, .int whigh])) 4 (0, .inr (15, .inl (upd wpower (0 : Int32).toNatClampNeg (1 : Int32))))) Q) : V G mX6_become b 0 [some (.ref 3), some (.int x1), some (.int x2)] [] h Q := by
  refine V_aload_n dX6_become_0 rfl rfl ?_
  refine V_iload_n dX6_become_1 rfl rfl ?_
  refine V_put (ci := 6) (j := 1) (C0 := RX6) (T := TX6) (N := 5) (ty := .int) dX6_become_2 rfl g3 (by decide) (by decide) kf_X6_19 rfl (by decide +kernel) rfl rfl (Nat.le_of_ble_eq_true rfl) ?_
  refine V_aload_n dX6_become_5 rfl rfl ?_
  refine V_iload_n dX6_become_6 rfl rfl ?_
  refine V_put (ci := 6) (j := 2) (C0 := RX6) (T := TX6) (N := 5) (ty := .int) dX6_become_7 rfl rfl (by decide) (by decide) kf_X6_23 rfl (by decide +kernel) rfl rfl (Nat.le_of_ble_eq_true rfl) ?_
  refine V_aload_n dX6_become_10 rfl rfl ?_
  refine V_get (ci := 6) (j := 0) (C0 := RX6) (T := TX6) (N := 5) dX6_become_11 rfl rfl (by decide) (by decide) kf_X6_9 rfl ?_
  refine V_iconst dX6_become_14 ic_0 ?_
  refine V_iconst dX6_become_15 ic_1 ?_
  refine V_iast dX6_become_16 g4 (q1) ?_
  refine V_iconst dX6_become_17 ic_1 ?_
  refine V_istore_n dX6_become_18 rfl (Nat.le_of_ble_eq_true rfl) ?_
  exact V_sub (by exact (And.intro rfl (And.intro rfl (And.intro rfl (And.intro rfl True.intro))))) (q2)
theorem tX6_become_19 {G : gx} {b : bg} {h : ah} {Q : Option Value → ah → Prop} {x1 : Int32} {x2 : Int32} {x3 : Int32} {wletters : Int32} {wlength : Int32} {wall : Int32} {whigh : Int32} {wpower : Nat → Int32} (g3 : h 3 = (6, .inl [.ref 4, .int wletters, .int wlength, .int wall, .int whigh])) (g4 : h 4 = (0, .inr (15, .inl wpower))) (q1 : (x2 < x3) → vp_in x2 15) (q2 : (x2 < x3) → vp_in (x2 - (1 : Int32)) 15) (q3 : (x2 < x3) → Q none (va_up (va_up h 3 (6, .inl [.ref 4, .int wletters, .int wlength, .int (wpower x2.toNatClampNeg), .int whigh])) 3 (6, .inl [.ref 4, .int wletters, .int wlength, .int (wpower x2.toNatClampNeg), .int (wpower (x2 - (1 : Int32)).toNatClampNeg)]))) (q4 : (¬ x2 < x3) → vp_in (x3 - (1 : Int32)) 15) (q5 : (¬ x2 < x3) → vp_in x3 15) (q6 : (¬ x2 < x3) → V G mX6_become b 19 [some (.ref 3), some (.int x1), some (.int x2), some (.int (x3 + (1 : Int32)))] [] (va_up h 4 (0, .inr (15, .inl (upd wpower x3.toNatClampNeg ((wpower (x3 - (1 : Int32)).toNatClampNeg) * x1))))) Q) : V G mX6_become b 19 [some (.ref 3), some (.int x1), some (.int x2), some (.int x3)] [] h Q := by
  refine V_iload_n dX6_become_19 rfl rfl ?_
  refine V_iload_n dX6_become_20 rfl rfl ?_
  refine V_icmp_gt (t := 46) dX6_become_21 (by decide) (fun z1 => ?_) (fun z1 => ?_)
  ·
    refine V_aload_n dX6_become_46 rfl rfl ?_
    refine V_aload_n dX6_become_47 rfl rfl ?_
    refine V_get (ci := 6) (j := 0) (C0 := RX6) (T := TX6) (N := 5) dX6_become_48 rfl g3 (by decide) (by decide) kf_X6_9 rfl ?_
    refine V_iload_n dX6_become_51 rfl rfl ?_
    refine V_iald dX6_become_52 g4 (q1 z1) ?_
    refine V_put (ci := 6) (j := 3) (C0 := RX6) (T := TX6) (N := 5) (ty := .int) dX6_become_53 rfl g3 (by decide) (by decide) kf_X6_26 rfl (by decide +kernel) rfl rfl (Nat.le_of_ble_eq_true rfl) ?_
    refine V_aload_n dX6_become_56 rfl rfl ?_
    refine V_aload_n dX6_become_57 rfl rfl ?_
    refine V_get (ci := 6) (j := 0) (C0 := RX6) (T := TX6) (N := 5) dX6_become_58 rfl rfl (by decide) (by decide) kf_X6_9 rfl ?_
    refine V_iload_n dX6_become_61 rfl rfl ?_
    refine V_iconst dX6_become_62 ic_1 ?_
    refine V_isub dX6_become_63 ?_
    refine V_iald dX6_become_64 g4 (q2 z1) ?_
    refine V_put (ci := 6) (j := 4) (C0 := RX6) (T := TX6) (N := 5) (ty := .int) dX6_become_65 rfl rfl (by decide) (by decide) kf_X6_29 rfl (by decide +kernel) rfl rfl (Nat.le_of_ble_eq_true rfl) ?_
    exact V_vret dX6_become_68 rfl (q3 z1)
  ·
    refine V_aload_n dX6_become_24 rfl rfl ?_
    refine V_get (ci := 6) (j := 0) (C0 := RX6) (T := TX6) (N := 5) dX6_become_25 rfl g3 (by decide) (by decide) kf_X6_9 rfl ?_
    refine V_iload_n dX6_become_28 rfl rfl ?_
    refine V_aload_n dX6_become_29 rfl rfl ?_
    refine V_get (ci := 6) (j := 0) (C0 := RX6) (T := TX6) (N := 5) dX6_become_30 rfl g3 (by decide) (by decide) kf_X6_9 rfl ?_
    refine V_iload_n dX6_become_33 rfl rfl ?_
    refine V_iconst dX6_become_34 ic_1 ?_
    refine V_isub dX6_become_35 ?_
    refine V_iald dX6_become_36 g4 (q4 z1) ?_
    refine V_iload_n dX6_become_37 rfl rfl ?_
    refine V_imul dX6_become_38 ?_
    refine V_iast dX6_become_39 g4 (q5 z1) ?_
    refine V_inc dX6_become_40 ic_1 rfl (Nat.le_of_ble_eq_true rfl) ?_
    refine V_goto (t := 19) dX6_become_43 (by decide) ?_
    exact V_sub (by exact (And.intro rfl (And.intro rfl (And.intro rfl (And.intro rfl True.intro))))) (q6 z1)
theorem tX6_has_0 {G : gx} {b : bg} {h : ah} {Q : Option Value → ah → Prop} {x1 : Int32} {wletters : Int32} {wlength : Int32} {wall : Int32} {whigh : Int32} (g3 : h 3 = (6, .inl [.ref 4, .int wletters, .int wlength, .int wall, .int whigh])) (q1 : (x1 < (0 : Int32)) → Q (some (.int (0 : Int32))) h) (q2 : (¬ x1 < (0 : Int32)) → (wall ≤ x1) → Q (some (.int (0 : Int32))) h) (q3 : (¬ x1 < (0 : Int32)) → (¬ wall ≤ x1) → Q (some (.int (1 : Int32))) h) : V G mX6_has b 0 [some (.ref 3), some (.int x1)] [] h Q := by
  refine V_iload_n dX6_has_0 rfl rfl ?_
  refine V_if_lt (t := 16) dX6_has_1 (by decide) (fun z1 => ?_) (fun z1 => ?_)
  ·
    refine V_iconst dX6_has_16 ic_0 ?_
    exact V_zret dX6_has_17 rfl rfl (q1 z1)
  ·
    refine V_iload_n dX6_has_4 rfl rfl ?_
    refine V_aload_n dX6_has_5 rfl rfl ?_
    refine V_get (ci := 6) (j := 3) (C0 := RX6) (T := TX6) (N := 5) dX6_has_6 rfl g3 (by decide) (by decide) kf_X6_26 rfl ?_
    refine V_icmp_ge (t := 16) dX6_has_9 (by decide) (fun z2 => ?_) (fun z2 => ?_)
    ·
      refine V_iconst dX6_has_16 ic_0 ?_
      exact V_zret dX6_has_17 rfl rfl (q2 z1 z2)
    ·
      refine V_iconst dX6_has_12 ic_1 ?_
      refine V_goto (t := 17) dX6_has_13 (by decide) ?_
      exact V_zret dX6_has_17 rfl rfl (q3 z1 z2)
theorem tX6_isLetter_0 {G : gx} {b : bg} {h : ah} {Q : Option Value → ah → Prop} {x1 : Int32} {wletters : Int32} {wlength : Int32} {wall : Int32} {whigh : Int32} (g3 : h 3 = (6, .inl [.ref 4, .int wletters, .int wlength, .int wall, .int whigh])) (q1 : (x1 < (0 : Int32)) → Q (some (.int (0 : Int32))) h) (q2 : (¬ x1 < (0 : Int32)) → (wletters ≤ x1) → Q (some (.int (0 : Int32))) h) (q3 : (¬ x1 < (0 : Int32)) → (¬ wletters ≤ x1) → Q (some (.int (1 : Int32))) h) : V G mX6_isLetter b 0 [some (.ref 3), some (.int x1)] [] h Q := by
  refine V_iload_n dX6_isLetter_0 rfl rfl ?_
  refine V_if_lt (t := 16) dX6_isLetter_1 (by decide) (fun z1 => ?_) (fun z1 => ?_)
  ·
    refine V_iconst dX6_isLetter_16 ic_0 ?_
    exact V_zret dX6_isLetter_17 rfl rfl (q1 z1)
  ·
    refine V_iload_n dX6_isLetter_4 rfl rfl ?_
    refine V_aload_n dX6_isLetter_5 rfl rfl ?_
    refine V_get (ci := 6) (j := 1) (C0 := RX6) (T := TX6) (N := 5) dX6_isLetter_6 rfl g3 (by decide) (by decide) kf_X6_19 rfl ?_
    refine V_icmp_ge (t := 16) dX6_isLetter_9 (by decide) (fun z2 => ?_) (fun z2 => ?_)
    ·
      refine V_iconst dX6_isLetter_16 ic_0 ?_
      exact V_zret dX6_isLetter_17 rfl rfl (q2 z1 z2)
    ·
      refine V_iconst dX6_isLetter_12 ic_1 ?_
      refine V_goto (t := 17) dX6_isLetter_13 (by decide) ?_
      exact V_zret dX6_isLetter_17 rfl rfl (q3 z1 z2)
theorem tX6_differInFirst_0 {G : gx} {b : bg} {h : ah} {Q : Option Value → ah → Prop} {x1 : Int32} {x2 : Int32} {wletters : Int32} {wlength : Int32} {wall : Int32} {whigh : Int32} (g3 : h 3 = (6, .inl [.ref 4, .int wletters, .int wlength, .int wall, .int whigh])) (q1 : (x1 = x2) → Q (some (.int (0 : Int32))) h) (q2 : (¬ x1 = x2) → ¬ whigh = 0) (q3 : (¬ x1 = x2) → ¬ whigh = 0) (q4 : (¬ x1 = x2) → (¬ (x1 - x1 / whigh * whigh) = (x2 - x2 / whigh * whigh)) → Q (some (.int (0 : Int32))) h) (q5 : (¬ x1 = x2) → ((x1 - x1 / whigh * whigh) = (x2 - x2 / whigh * whigh)) → Q (some (.int (1 : Int32))) h) : V G mX6_differInFirst b 0 [some (.ref 3), some (.int x1), some (.int x2)] [] h Q := by
  refine V_iload_n dX6_differInFirst_0 rfl rfl ?_
  refine V_iload_n dX6_differInFirst_1 rfl rfl ?_
  refine V_icmp_eq (t := 24) dX6_differInFirst_2 (by decide) (fun z1 => ?_) (fun z1 => ?_)
  ·
    refine V_iconst dX6_differInFirst_24 ic_0 ?_
    exact V_zret dX6_differInFirst_25 rfl rfl (q1 z1)
  ·
    refine V_iload_n dX6_differInFirst_5 rfl rfl ?_
    refine V_aload_n dX6_differInFirst_6 rfl rfl ?_
    refine V_get (ci := 6) (j := 4) (C0 := RX6) (T := TX6) (N := 5) dX6_differInFirst_7 rfl g3 (by decide) (by decide) kf_X6_29 rfl ?_
    refine V_irem dX6_differInFirst_10 (q2 z1) ?_
    refine V_iload_n dX6_differInFirst_11 rfl rfl ?_
    refine V_aload_n dX6_differInFirst_12 rfl rfl ?_
    refine V_get (ci := 6) (j := 4) (C0 := RX6) (T := TX6) (N := 5) dX6_differInFirst_13 rfl g3 (by decide) (by decide) kf_X6_29 rfl ?_
    refine V_irem dX6_differInFirst_16 (q3 z1) ?_
    refine V_icmp_ne (t := 24) dX6_differInFirst_17 (by decide) (fun z2 => ?_) (fun z2 => ?_)
    ·
      refine V_iconst dX6_differInFirst_24 ic_0 ?_
      exact V_zret dX6_differInFirst_25 rfl rfl (q4 z1 z2)
    ·
      refine V_iconst dX6_differInFirst_20 ic_1 ?_
      refine V_goto (t := 25) dX6_differInFirst_21 (by decide) ?_
      exact V_zret dX6_differInFirst_25 rfl rfl (q5 z1 z2)
theorem tX6_turned_0 {G : gx} {b : bg} {h : ah} {Q : Option Value → ah → Prop} {x1 : Int32} {x2 : Int32} {wletters : Int32} {wlength : Int32} {wall : Int32} {whigh : Int32} {wpower : Nat → Int32} (g3 : h 3 = (6, .inl [.ref 4, .int wletters, .int wlength, .int wall, .int whigh])) (g4 : h 4 = (0, .inr (15, .inl wpower))) (q1 : ¬ wlength = 0) (q2 : vp_in (wlength - (x2 - x2 / wlength * wlength)) 15) (q3 : ¬ (wpower (wlength - (x2 - x2 / wlength * wlength)).toNatClampNeg) = 0) (q4 : vp_in (x2 - x2 / wlength * wlength) 15) (q5 : ¬ (wpower (wlength - (x2 - x2 / wlength * wlength)).toNatClampNeg) = 0) (q6 : Q (some (.int (((x1 - x1 / (wpower (wlength - (x2 - x2 / wlength * wlength)).toNatClampNeg) * (wpower (wlength - (x2 - x2 / wlength * wlength)).toNatClampNeg)) * (wpower (x2 - x2 / wlength * wlength).toNatClampNeg)) + (x1 / (wpower (wlength - (x2 - x2 / wlength * wlength)).toNatClampNeg))))) h) : V G mX6_turned b 0 [some (.ref 3), some (.int x1), some (.int x2)] [] h Q := by
  refine V_iload_n dX6_turned_0 rfl rfl ?_
  refine V_aload_n dX6_turned_1 rfl rfl ?_
  refine V_get (ci := 6) (j := 2) (C0 := RX6) (T := TX6) (N := 5) dX6_turned_2 rfl g3 (by decide) (by decide) kf_X6_23 rfl ?_
  refine V_irem dX6_turned_5 (q1) ?_
  refine V_istore_n dX6_turned_6 rfl (Nat.le_of_ble_eq_true rfl) ?_
  refine V_aload_n dX6_turned_7 rfl rfl ?_
  refine V_get (ci := 6) (j := 0) (C0 := RX6) (T := TX6) (N := 5) dX6_turned_8 rfl g3 (by decide) (by decide) kf_X6_9 rfl ?_
  refine V_aload_n dX6_turned_11 rfl rfl ?_
  refine V_get (ci := 6) (j := 2) (C0 := RX6) (T := TX6) (N := 5) dX6_turned_12 rfl g3 (by decide) (by decide) kf_X6_23 rfl ?_
  refine V_iload_n dX6_turned_15 rfl rfl ?_
  refine V_isub dX6_turned_16 ?_
  refine V_iald dX6_turned_17 g4 (q2) ?_
  refine V_istore dX6_turned_18 (Nat.le_of_ble_eq_true rfl) ?_
  refine V_iload_n dX6_turned_20 rfl rfl ?_
  refine V_iload dX6_turned_21 rfl ?_
  refine V_irem dX6_turned_23 (q3) ?_
  refine V_aload_n dX6_turned_24 rfl rfl ?_
  refine V_get (ci := 6) (j := 0) (C0 := RX6) (T := TX6) (N := 5) dX6_turned_25 rfl g3 (by decide) (by decide) kf_X6_9 rfl ?_
  refine V_iload_n dX6_turned_28 rfl rfl ?_
  refine V_iald dX6_turned_29 g4 (q4) ?_
  refine V_imul dX6_turned_30 ?_
  refine V_iload_n dX6_turned_31 rfl rfl ?_
  refine V_iload dX6_turned_32 rfl ?_
  refine V_idiv dX6_turned_34 (q5) ?_
  refine V_iadd dX6_turned_35 ?_
  exact V_iret dX6_turned_36 rfl (q6)
theorem tX6_turnedOnce_0 {G : gx} {b : bg} {h : ah} {Q : Option Value → ah → Prop} {x1 : Int32} {wletters : Int32} {wlength : Int32} {wall : Int32} {whigh : Int32} (g3 : h 3 = (6, .inl [.ref 4, .int wletters, .int wlength, .int wall, .int whigh])) (q1 : ¬ whigh = 0) (q2 : ¬ whigh = 0) (q3 : Q (some (.int (((x1 - x1 / whigh * whigh) * wletters) + (x1 / whigh)))) h) : V G mX6_turnedOnce b 0 [some (.ref 3), some (.int x1)] [] h Q := by
  refine V_iload_n dX6_turnedOnce_0 rfl rfl ?_
  refine V_aload_n dX6_turnedOnce_1 rfl rfl ?_
  refine V_get (ci := 6) (j := 4) (C0 := RX6) (T := TX6) (N := 5) dX6_turnedOnce_2 rfl g3 (by decide) (by decide) kf_X6_29 rfl ?_
  refine V_irem dX6_turnedOnce_5 (q1) ?_
  refine V_aload_n dX6_turnedOnce_6 rfl rfl ?_
  refine V_get (ci := 6) (j := 1) (C0 := RX6) (T := TX6) (N := 5) dX6_turnedOnce_7 rfl g3 (by decide) (by decide) kf_X6_19 rfl ?_
  refine V_imul dX6_turnedOnce_10 ?_
  refine V_iload_n dX6_turnedOnce_11 rfl rfl ?_
  refine V_aload_n dX6_turnedOnce_12 rfl rfl ?_
  refine V_get (ci := 6) (j := 4) (C0 := RX6) (T := TX6) (N := 5) dX6_turnedOnce_13 rfl g3 (by decide) (by decide) kf_X6_29 rfl ?_
  refine V_idiv dX6_turnedOnce_16 (q2) ?_
  refine V_iadd dX6_turnedOnce_17 ?_
  exact V_iret dX6_turnedOnce_18 rfl (q3)
theorem tX6_leastOf_0 {G : gx} {b : bg} {h : ah} {Q : Option Value → ah → Prop} {x1 : Int32} (q1 : V G mX6_leastOf b 7 [some (.ref 3), some (.int x1), some (.int x1), some (.int x1), some (.int (1 : Int32))] [] h Q) : V G mX6_leastOf b 0 [some (.ref 3), some (.int x1)] [] h Q := by
  refine V_iload_n dX6_leastOf_0 rfl rfl ?_
  refine V_istore_n dX6_leastOf_1 rfl (Nat.le_of_ble_eq_true rfl) ?_
  refine V_iload_n dX6_leastOf_2 rfl rfl ?_
  refine V_istore_n dX6_leastOf_3 rfl (Nat.le_of_ble_eq_true rfl) ?_
  refine V_iconst dX6_leastOf_4 ic_1 ?_
  refine V_istore dX6_leastOf_5 (Nat.le_of_ble_eq_true rfl) ?_
  exact V_sub (by exact (And.intro rfl (And.intro rfl (And.intro rfl (And.intro rfl (And.intro rfl True.intro)))))) (q1)
theorem tX6_leastOf_7 {G : gx} {b : bg} {h : ah} {Q : Option Value → ah → Prop} {x1 : Int32} {x2 : Int32} {x3 : Int32} {x4 : Int32} {wletters : Int32} {wlength : Int32} {wall : Int32} {whigh : Int32} (g3 : h 3 = (6, .inl [.ref 4, .int wletters, .int wlength, .int wall, .int whigh])) (q1 : (wlength ≤ x4) → Q (some (.int x2)) h) (q2 : (¬ wlength ≤ x4) → V G mX6_leastOf b 18 [some (.ref 3), some (.int x1), some (.int x2), some (.int x3), some (.int x4)] [.int x3, .ref 3] h Q) : V G mX6_leastOf b 7 [some (.ref 3), some (.int x1), some (.int x2), some (.int x3), some (.int x4)] [] h Q := by
  refine V_iload dX6_leastOf_7 rfl ?_
  refine V_aload_n dX6_leastOf_9 rfl rfl ?_
  refine V_get (ci := 6) (j := 2) (C0 := RX6) (T := TX6) (N := 5) dX6_leastOf_10 rfl g3 (by decide) (by decide) kf_X6_23 rfl ?_
  refine V_icmp_ge (t := 34) dX6_leastOf_13 (by decide) (fun z1 => ?_) (fun z1 => ?_)
  ·
    refine V_iload_n dX6_leastOf_34 rfl rfl ?_
    exact V_iret dX6_leastOf_35 rfl (q1 z1)
  ·
    refine V_aload_n dX6_leastOf_16 rfl rfl ?_
    refine V_iload_n dX6_leastOf_17 rfl rfl ?_
    exact V_sub (by exact (And.intro rfl (And.intro rfl (And.intro rfl (And.intro rfl (And.intro rfl True.intro)))))) (q2 z1)
theorem tX6_leastOf_21 {G : gx} {b : bg} {h : ah} {Q : Option Value → ah → Prop} {x1 : Int32} {x2 : Int32} {x3 : Int32} {x4 : Int32} {s0 : Int32} (q1 : V G mX6_leastOf b 24 [some (.ref 3), some (.int x1), some (.int x2), some (.int s0), some (.int x4)] [.int s0, .int x2] h Q) : V G mX6_leastOf b 21 [some (.ref 3), some (.int x1), some (.int x2), some (.int x3), some (.int x4)] [.int s0] h Q := by
  refine V_istore_n dX6_leastOf_21 rfl (Nat.le_of_ble_eq_true rfl) ?_
  refine V_iload_n dX6_leastOf_22 rfl rfl ?_
  refine V_iload_n dX6_leastOf_23 rfl rfl ?_
  exact V_sub (by exact (And.intro rfl (And.intro rfl (And.intro rfl (And.intro rfl (And.intro rfl True.intro)))))) (q1)
theorem tX6_leastOf_27 {G : gx} {b : bg} {h : ah} {Q : Option Value → ah → Prop} {x1 : Int32} {x2 : Int32} {x3 : Int32} {x4 : Int32} {s0 : Int32} (q1 : V G mX6_leastOf b 7 [some (.ref 3), some (.int x1), some (.int s0), some (.int x3), some (.int (x4 + (1 : Int32)))] [] h Q) : V G mX6_leastOf b 27 [some (.ref 3), some (.int x1), some (.int x2), some (.int x3), some (.int x4)] [.int s0] h Q := by
  refine V_istore_n dX6_leastOf_27 rfl (Nat.le_of_ble_eq_true rfl) ?_
  refine V_inc dX6_leastOf_28 ic_1 rfl (Nat.le_of_ble_eq_true rfl) ?_
  refine V_goto (t := 7) dX6_leastOf_31 (by decide) ?_
  exact V_sub (by exact (And.intro rfl (And.intro rfl (And.intro rfl (And.intro rfl (And.intro rfl True.intro)))))) (q1)
theorem cX6_leastOf_18 {G : gx} {d mc ms cc zz d2 mc2 ms2 : Nat} {L : List (Option Value)} {S : List Value} {h : ah} {Q Q2 : Option Value → ah → Prop} {k : Nat} {fs : List Value} {a0 : Value} (hM : Ct G mX6_turnedOnce d2 mc2 ms2 (.ref (k + 2) :: [a0]) h Q2) (hc : h (k + 2) = (6, .inl fs)) (hdd : d2 < d ∧ d ≤ 9) (hrm : (S.map fun v => v.category).sum ≤ 8) (hf : cc + mc2 ≤ mc ∧ zz + ms2 ≤ ms) (kk : ∀ r h2, Q2 r h2 → V G mX6_leastOf (d, mc, ms, cc + mc2, zz + ms2) 21 L (r.toList ++ S) h2 Q) : V G mX6_leastOf (d, mc, ms, cc, zz) 18 L (a0 :: .ref (k + 2) :: S) h Q := V_callV (ci := 6) (T := TX6) (N := 5) hM dX6_leastOf_18 ⟨km_X6_32, ki_X6_turnedOnce, ks_X6_turnedOnce⟩ cw_X6_turnedOnce rfl hc (by decide) hdd rfl rfl hrm hf kk
theorem cX6_leastOf_24 {G : gx} {d mc ms cc zz d2 mc2 ms2 : Nat} {L : List (Option Value)} {S : List Value} {h : ah} {Q Q2 : Option Value → ah → Prop} {a0 a1 : Value} (hM : Ct G mJ9_min_7cf53 d2 mc2 ms2 [a0, a1] h Q2) (hdd : d2 < d ∧ d ≤ 9) (hrm : (S.map fun v => v.category).sum ≤ 8) (hf : cc + mc2 ≤ mc ∧ zz + ms2 ≤ ms) (kk : ∀ r h2, Q2 r h2 → V G mX6_leastOf (d, mc, ms, cc + mc2, zz + ms2) 27 L (r.toList ++ S) h2 Q) : V G mX6_leastOf (d, mc, ms, cc, zz) 24 L (a1 :: a0 :: S) h Q := V_callS hM dX6_leastOf_24 ⟨km_X6_36, kt_J9_min_7cf53⟩ cw_J9_min_7cf53 hdd rfl rfl hrm hf kk
theorem tX6_stepsToLeast_0 {G : gx} {b : bg} {h : ah} {Q : Option Value → ah → Prop} {x1 : Int32} (q1 : V G mX6_stepsToLeast b 10 [some (.ref 3), some (.int x1), some (.int x1), some (.int (0 : Int32)), some (.int x1), some (.int (1 : Int32))] [] h Q) : V G mX6_stepsToLeast b 0 [some (.ref 3), some (.int x1)] [] h Q := by
  refine V_iload_n dX6_stepsToLeast_0 rfl rfl ?_
  refine V_istore_n dX6_stepsToLeast_1 rfl (Nat.le_of_ble_eq_true rfl) ?_
  refine V_iconst dX6_stepsToLeast_2 ic_0 ?_
  refine V_istore_n dX6_stepsToLeast_3 rfl (Nat.le_of_ble_eq_true rfl) ?_
  refine V_iload_n dX6_stepsToLeast_4 rfl rfl ?_
  refine V_istore dX6_stepsToLeast_5 (Nat.le_of_ble_eq_true rfl) ?_
  refine V_iconst dX6_stepsToLeast_7 ic_1 ?_
  refine V_istore dX6_stepsToLeast_8 (Nat.le_of_ble_eq_true rfl) ?_
  exact V_sub (by exact (And.intro rfl (And.intro rfl (And.intro rfl (And.intro rfl (And.intro rfl (And.intro rfl True.intro))))))) (q1)
theorem tX6_stepsToLeast_10 {G : gx} {b : bg} {h : ah} {Q : Option Value → ah → Prop} {x1 : Int32} {x2 : Int32} {x3 : Int32} {x4 : Int32} {x5 : Int32} {wletters : Int32} {wlength : Int32} {wall : Int32} {whigh : Int32} (g3 : h 3 = (6, .inl [.ref 4, .int wletters, .int wlength, .int wall, .int whigh])) (q1 : (wlength ≤ x5) → Q (some (.int x3)) h) (q2 : (¬ wlength ≤ x5) → V G mX6_stepsToLeast b 22 [some (.ref 3), some (.int x1), some (.int x2), some (.int x3), some (.int x4), some (.int x5)] [.int x4, .ref 3] h Q) : V G mX6_stepsToLeast b 10 [some (.ref 3), some (.int x1), some (.int x2), some (.int x3), some (.int x4), some (.int x5)] [] h Q := by
  refine V_iload dX6_stepsToLeast_10 rfl ?_
  refine V_aload_n dX6_stepsToLeast_12 rfl rfl ?_
  refine V_get (ci := 6) (j := 2) (C0 := RX6) (T := TX6) (N := 5) dX6_stepsToLeast_13 rfl g3 (by decide) (by decide) kf_X6_23 rfl ?_
  refine V_icmp_ge (t := 45) dX6_stepsToLeast_16 (by decide) (fun z1 => ?_) (fun z1 => ?_)
  ·
    refine V_iload_n dX6_stepsToLeast_45 rfl rfl ?_
    exact V_iret dX6_stepsToLeast_46 rfl (q1 z1)
  ·
    refine V_aload_n dX6_stepsToLeast_19 rfl rfl ?_
    refine V_iload dX6_stepsToLeast_20 rfl ?_
    exact V_sub (by exact (And.intro rfl (And.intro rfl (And.intro rfl (And.intro rfl (And.intro rfl (And.intro rfl True.intro))))))) (q2 z1)
theorem tX6_stepsToLeast_25 {G : gx} {b : bg} {h : ah} {Q : Option Value → ah → Prop} {x1 : Int32} {x2 : Int32} {x3 : Int32} {x4 : Int32} {x5 : Int32} {s0 : Int32} (q1 : (x2 ≤ s0) → V G mX6_stepsToLeast b 10 [some (.ref 3), some (.int x1), some (.int x2), some (.int x3), some (.int s0), some (.int (x5 + (1 : Int32)))] [] h Q) (q2 : (¬ x2 ≤ s0) → V G mX6_stepsToLeast b 10 [some (.ref 3), some (.int x1), some (.int s0), some (.int x5), some (.int s0), some (.int (x5 + (1 : Int32)))] [] h Q) : V G mX6_stepsToLeast b 25 [some (.ref 3), some (.int x1), some (.int x2), some (.int x3), some (.int x4), some (.int x5)] [.int s0] h Q := by
  refine V_istore dX6_stepsToLeast_25 (Nat.le_of_ble_eq_true rfl) ?_
  refine V_iload dX6_stepsToLeast_27 rfl ?_
  refine V_iload_n dX6_stepsToLeast_29 rfl rfl ?_
  refine V_icmp_ge (t := 39) dX6_stepsToLeast_30 (by decide) (fun z1 => ?_) (fun z1 => ?_)
  ·
    refine V_inc dX6_stepsToLeast_39 ic_1 rfl (Nat.le_of_ble_eq_true rfl) ?_
    refine V_goto (t := 10) dX6_stepsToLeast_42 (by decide) ?_
    exact V_sub (by exact (And.intro rfl (And.intro rfl (And.intro rfl (And.intro rfl (And.intro rfl (And.intro rfl True.intro))))))) (q1 z1)
  ·
    refine V_iload dX6_stepsToLeast_33 rfl ?_
    refine V_istore_n dX6_stepsToLeast_35 rfl (Nat.le_of_ble_eq_true rfl) ?_
    refine V_iload dX6_stepsToLeast_36 rfl ?_
    refine V_istore_n dX6_stepsToLeast_38 rfl (Nat.le_of_ble_eq_true rfl) ?_
    refine V_inc dX6_stepsToLeast_39 ic_1 rfl (Nat.le_of_ble_eq_true rfl) ?_
    refine V_goto (t := 10) dX6_stepsToLeast_42 (by decide) ?_
    exact V_sub (by exact (And.intro rfl (And.intro rfl (And.intro rfl (And.intro rfl (And.intro rfl (And.intro rfl True.intro))))))) (q2 z1)
theorem cX6_stepsToLeast_22 {G : gx} {d mc ms cc zz d2 mc2 ms2 : Nat} {L : List (Option Value)} {S : List Value} {h : ah} {Q Q2 : Option Value → ah → Prop} {k : Nat} {fs : List Value} {a0 : Value} (hM : Ct G mX6_turnedOnce d2 mc2 ms2 (.ref (k + 2) :: [a0]) h Q2) (hc : h (k + 2) = (6, .inl fs)) (hdd : d2 < d ∧ d ≤ 9) (hrm : (S.map fun v => v.category).sum ≤ 8) (hf : cc + mc2 ≤ mc ∧ zz + ms2 ≤ ms) (kk : ∀ r h2, Q2 r h2 → V G mX6_stepsToLeast (d, mc, ms, cc + mc2, zz + ms2) 25 L (r.toList ++ S) h2 Q) : V G mX6_stepsToLeast (d, mc, ms, cc, zz) 22 L (a0 :: .ref (k + 2) :: S) h Q := V_callV (ci := 6) (T := TX6) (N := 5) hM dX6_stepsToLeast_22 ⟨km_X6_32, ki_X6_turnedOnce, ks_X6_turnedOnce⟩ cw_X6_turnedOnce rfl hc (by decide) hdd rfl rfl hrm hf kk
theorem tX6_ringSize_0 {G : gx} {b : bg} {h : ah} {Q : Option Value → ah → Prop} {x1 : Int32} (q1 : V G mX6_ringSize b 2 [some (.ref 3), some (.int x1)] [.int x1, .ref 3] h Q) : V G mX6_ringSize b 0 [some (.ref 3), some (.int x1)] [] h Q := by
  refine V_aload_n dX6_ringSize_0 rfl rfl ?_
  refine V_iload_n dX6_ringSize_1 rfl rfl ?_
  exact V_sub (by exact (And.intro rfl (And.intro rfl True.intro))) (q1)
theorem tX6_ringSize_8 {G : gx} {b : bg} {h : ah} {Q : Option Value → ah → Prop} {x1 : Int32} {x2 : Int32} {x3 : Int32} {wletters : Int32} {wlength : Int32} {wall : Int32} {whigh : Int32} (g3 : h 3 = (6, .inl [.ref 4, .int wletters, .int wlength, .int wall, .int whigh])) (q1 : (wlength ≤ x3) → Q (some (.int x3)) h) (q2 : (¬ wlength ≤ x3) → (x2 = x1) → Q (some (.int x3)) h) (q3 : (¬ wlength ≤ x3) → (¬ x2 = x1) → V G mX6_ringSize b 23 [some (.ref 3), some (.int x1), some (.int x2), some (.int x3)] [.int x2, .ref 3] h Q) : V G mX6_ringSize b 8 [some (.ref 3), some (.int x1), some (.int x2), some (.int x3)] [] h Q := by
  refine V_iload_n dX6_ringSize_8 rfl rfl ?_
  refine V_aload_n dX6_ringSize_9 rfl rfl ?_
  refine V_get (ci := 6) (j := 2) (C0 := RX6) (T := TX6) (N := 5) dX6_ringSize_10 rfl g3 (by decide) (by decide) kf_X6_23 rfl ?_
  refine V_icmp_ge (t := 33) dX6_ringSize_13 (by decide) (fun z1 => ?_) (fun z1 => ?_)
  ·
    refine V_iload_n dX6_ringSize_33 rfl rfl ?_
    exact V_iret dX6_ringSize_34 rfl (q1 z1)
  ·
    refine V_iload_n dX6_ringSize_16 rfl rfl ?_
    refine V_iload_n dX6_ringSize_17 rfl rfl ?_
    refine V_icmp_eq (t := 33) dX6_ringSize_18 (by decide) (fun z2 => ?_) (fun z2 => ?_)
    ·
      refine V_iload_n dX6_ringSize_33 rfl rfl ?_
      exact V_iret dX6_ringSize_34 rfl (q2 z1 z2)
    ·
      refine V_aload_n dX6_ringSize_21 rfl rfl ?_
      refine V_iload_n dX6_ringSize_22 rfl rfl ?_
      exact V_sub (by exact (And.intro rfl (And.intro rfl (And.intro rfl (And.intro rfl True.intro))))) (q3 z1 z2)
theorem tX6_ringSize_5 {G : gx} {b : bg} {h : ah} {Q : Option Value → ah → Prop} {x1 : Int32} {s0 : Int32} (q1 : V G mX6_ringSize b 8 [some (.ref 3), some (.int x1), some (.int s0), some (.int (1 : Int32))] [] h Q) : V G mX6_ringSize b 5 [some (.ref 3), some (.int x1)] [.int s0] h Q := by
  refine V_istore_n dX6_ringSize_5 rfl (Nat.le_of_ble_eq_true rfl) ?_
  refine V_iconst dX6_ringSize_6 ic_1 ?_
  refine V_istore_n dX6_ringSize_7 rfl (Nat.le_of_ble_eq_true rfl) ?_
  exact V_sub (by exact (And.intro rfl (And.intro rfl (And.intro rfl (And.intro rfl True.intro))))) (q1)
theorem tX6_ringSize_26 {G : gx} {b : bg} {h : ah} {Q : Option Value → ah → Prop} {x1 : Int32} {x2 : Int32} {x3 : Int32} {s0 : Int32} (q1 : V G mX6_ringSize b 8 [some (.ref 3), some (.int x1), some (.int s0), some (.int (x3 + (1 : Int32)))] [] h Q) : V G mX6_ringSize b 26 [some (.ref 3), some (.int x1), some (.int x2), some (.int x3)] [.int s0] h Q := by
  refine V_istore_n dX6_ringSize_26 rfl (Nat.le_of_ble_eq_true rfl) ?_
  refine V_inc dX6_ringSize_27 ic_1 rfl (Nat.le_of_ble_eq_true rfl) ?_
  refine V_goto (t := 8) dX6_ringSize_30 (by decide) ?_
  exact V_sub (by exact (And.intro rfl (And.intro rfl (And.intro rfl (And.intro rfl True.intro))))) (q1)
theorem cX6_ringSize_2 {G : gx} {d mc ms cc zz d2 mc2 ms2 : Nat} {L : List (Option Value)} {S : List Value} {h : ah} {Q Q2 : Option Value → ah → Prop} {k : Nat} {fs : List Value} {a0 : Value} (hM : Ct G mX6_turnedOnce d2 mc2 ms2 (.ref (k + 2) :: [a0]) h Q2) (hc : h (k + 2) = (6, .inl fs)) (hdd : d2 < d ∧ d ≤ 9) (hrm : (S.map fun v => v.category).sum ≤ 8) (hf : cc + mc2 ≤ mc ∧ zz + ms2 ≤ ms) (kk : ∀ r h2, Q2 r h2 → V G mX6_ringSize (d, mc, ms, cc + mc2, zz + ms2) 5 L (r.toList ++ S) h2 Q) : V G mX6_ringSize (d, mc, ms, cc, zz) 2 L (a0 :: .ref (k + 2) :: S) h Q := V_callV (ci := 6) (T := TX6) (N := 5) hM dX6_ringSize_2 ⟨km_X6_32, ki_X6_turnedOnce, ks_X6_turnedOnce⟩ cw_X6_turnedOnce rfl hc (by decide) hdd rfl rfl hrm hf kk
theorem cX6_ringSize_23 {G : gx} {d mc ms cc zz d2 mc2 ms2 : Nat} {L : List (Option Value)} {S : List Value} {h : ah} {Q Q2 : Option Value → ah → Prop} {k : Nat} {fs : List Value} {a0 : Value} (hM : Ct G mX6_turnedOnce d2 mc2 ms2 (.ref (k + 2) :: [a0]) h Q2) (hc : h (k + 2) = (6, .inl fs)) (hdd : d2 < d ∧ d ≤ 9) (hrm : (S.map fun v => v.category).sum ≤ 8) (hf : cc + mc2 ≤ mc ∧ zz + ms2 ≤ ms) (kk : ∀ r h2, Q2 r h2 → V G mX6_ringSize (d, mc, ms, cc + mc2, zz + ms2) 26 L (r.toList ++ S) h2 Q) : V G mX6_ringSize (d, mc, ms, cc, zz) 23 L (a0 :: .ref (k + 2) :: S) h Q := V_callV (ci := 6) (T := TX6) (N := 5) hM dX6_ringSize_23 ⟨km_X6_32, ki_X6_turnedOnce, ks_X6_turnedOnce⟩ cw_X6_turnedOnce rfl hc (by decide) hdd rfl rfl hrm hf kk
theorem tX6_backward_0 {G : gx} {b : bg} {h : ah} {Q : Option Value → ah → Prop} {x1 : Int32} (q1 : V G mX6_backward b 7 [some (.ref 3), some (.int x1), some (.int x1), some (.int (0 : Int32)), some (.int (0 : Int32))] [] h Q) : V G mX6_backward b 0 [some (.ref 3), some (.int x1)] [] h Q := by
  refine V_iload_n dX6_backward_0 rfl rfl ?_
  refine V_istore_n dX6_backward_1 rfl (Nat.le_of_ble_eq_true rfl) ?_
  refine V_iconst dX6_backward_2 ic_0 ?_
  refine V_istore_n dX6_backward_3 rfl (Nat.le_of_ble_eq_true rfl) ?_
  refine V_iconst dX6_backward_4 ic_0 ?_
  refine V_istore dX6_backward_5 (Nat.le_of_ble_eq_true rfl) ?_
  exact V_sub (by exact (And.intro rfl (And.intro rfl (And.intro rfl (And.intro rfl (And.intro rfl True.intro)))))) (q1)
theorem tX6_backward_7 {G : gx} {b : bg} {h : ah} {Q : Option Value → ah → Prop} {x1 : Int32} {x2 : Int32} {x3 : Int32} {x4 : Int32} {wletters : Int32} {wlength : Int32} {wall : Int32} {whigh : Int32} (g3 : h 3 = (6, .inl [.ref 4, .int wletters, .int wlength, .int wall, .int whigh])) (q1 : (wlength ≤ x4) → Q (some (.int x3)) h) (q2 : (¬ wlength ≤ x4) → ¬ wletters = 0) (q3 : (¬ wlength ≤ x4) → ¬ wletters = 0) (q4 : (¬ wlength ≤ x4) → V G mX6_backward b 7 [some (.ref 3), some (.int x1), some (.int (x2 / wletters)), some (.int ((x3 * wletters) + (x2 - x2 / wletters * wletters))), some (.int (x4 + (1 : Int32)))] [] h Q) : V G mX6_backward b 7 [some (.ref 3), some (.int x1), some (.int x2), some (.int x3), some (.int x4)] [] h Q := by
  refine V_iload dX6_backward_7 rfl ?_
  refine V_aload_n dX6_backward_9 rfl rfl ?_
  refine V_get (ci := 6) (j := 2) (C0 := RX6) (T := TX6) (N := 5) dX6_backward_10 rfl g3 (by decide) (by decide) kf_X6_23 rfl ?_
  refine V_icmp_ge (t := 43) dX6_backward_13 (by decide) (fun z1 => ?_) (fun z1 => ?_)
  ·
    refine V_iload_n dX6_backward_43 rfl rfl ?_
    exact V_iret dX6_backward_44 rfl (q1 z1)
  ·
    refine V_iload_n dX6_backward_16 rfl rfl ?_
    refine V_aload_n dX6_backward_17 rfl rfl ?_
    refine V_get (ci := 6) (j := 1) (C0 := RX6) (T := TX6) (N := 5) dX6_backward_18 rfl g3 (by decide) (by decide) kf_X6_19 rfl ?_
    refine V_imul dX6_backward_21 ?_
    refine V_iload_n dX6_backward_22 rfl rfl ?_
    refine V_aload_n dX6_backward_23 rfl rfl ?_
    refine V_get (ci := 6) (j := 1) (C0 := RX6) (T := TX6) (N := 5) dX6_backward_24 rfl g3 (by decide) (by decide) kf_X6_19 rfl ?_
    refine V_irem dX6_backward_27 (q2 z1) ?_
    refine V_iadd dX6_backward_28 ?_
    refine V_istore_n dX6_backward_29 rfl (Nat.le_of_ble_eq_true rfl) ?_
    refine V_iload_n dX6_backward_30 rfl rfl ?_
    refine V_aload_n dX6_backward_31 rfl rfl ?_
    refine V_get (ci := 6) (j := 1) (C0 := RX6) (T := TX6) (N := 5) dX6_backward_32 rfl g3 (by decide) (by decide) kf_X6_19 rfl ?_
    refine V_idiv dX6_backward_35 (q3 z1) ?_
    refine V_istore_n dX6_backward_36 rfl (Nat.le_of_ble_eq_true rfl) ?_
    refine V_inc dX6_backward_37 ic_1 rfl (Nat.le_of_ble_eq_true rfl) ?_
    refine V_goto (t := 7) dX6_backward_40 (by decide) ?_
    exact V_sub (by exact (And.intro rfl (And.intro rfl (And.intro rfl (And.intro rfl (And.intro rfl True.intro)))))) (q4 z1)
theorem tJ9_min_7cf53_0 {G : gx} {b : bg} {h : ah} {Q : Option Value → ah → Prop} {x0 : Int32} {x1 : Int32} (q1 : (x1 < x0) → Q (some (.int x1)) h) (q2 : (¬ x1 < x0) → Q (some (.int x0)) h) : V G mJ9_min_7cf53 b 0 [some (.int x0), some (.int x1)] [] h Q := by
  refine V_iload_n dJ9_min_7cf53_0 rfl rfl ?_
  refine V_iload_n dJ9_min_7cf53_1 rfl rfl ?_
  refine V_icmp_gt (t := 9) dJ9_min_7cf53_2 (by decide) (fun z1 => ?_) (fun z1 => ?_)
  ·
    refine V_iload_n dJ9_min_7cf53_9 rfl rfl ?_
    exact V_iret dJ9_min_7cf53_10 rfl (q1 z1)
  ·
    refine V_iload_n dJ9_min_7cf53_5 rfl rfl ?_
    refine V_goto (t := 10) dJ9_min_7cf53_6 (by decide) ?_
    exact V_iret dJ9_min_7cf53_10 rfl (q2 z1)
end
section
/-! WORDS as numbers: turning -/
def okW (k n : Nat) : Prop := 2 ≤ k ∧ k ≤ 5 ∧ 1 ≤ n ∧ n ≤ 14 ∧ k ^ n ≤ 20000
def tn (k n w : Nat) : Nat := w % k ^ (n - 1) * k + w / k ^ (n - 1)
def ti (k n : Nat) : Nat → Nat → Nat
  | 0, w => w
  | t + 1, w => tn k n (ti k n t w)
theorem dm_u {q r M X : Nat} (h : r < M) (hx : X = q * M + r) : X / M = q ∧ X % M = r := by
  subst hx
  have hM : 0 < M := by omega
  constructor
  · rw [Nat.add_comm, Nat.add_mul_div_right _ _ hM, Nat.div_eq_of_lt h, Nat.zero_add]
  · rw [Nat.add_comm, Nat.add_mul_mod_self_right, Nat.mod_eq_of_lt h]
theorem dm_lt {a b K M : Nat} (ha : a < M) (hb : b < K) : a * K + b < M * K := by
  have h1 : (a + 1) * K ≤ M * K := Nat.mul_le_mul_right K ha
  rw [Nat.add_mul, Nat.one_mul] at h1
  omega
theorem tn_two {k m t A B : Nat} (hk : 0 < k) (hB : B < k ^ t) : tn k (m + t + 1) (A * k ^ t + B) = A % k ^ m * k ^ (t + 1) + (B * k + A / k ^ m) := by
  have hM : 0 < k ^ m := Nat.pow_pos hk
  have e1 : k ^ (m + t + 1 - 1) = k ^ m * k ^ t := by rw [Nat.add_sub_cancel, Nat.pow_add]
  have h2 : A * k ^ t + B = A / k ^ m * (k ^ m * k ^ t) + (A % k ^ m * k ^ t + B) := by
    have h := Nat.div_add_mod A (k ^ m)
    calc A * k ^ t + B = (k ^ m * (A / k ^ m) + A % k ^ m) * k ^ t + B := by rw [h]
      _ = _ := by rw [Nat.add_mul, Nat.mul_comm (k ^ m) (A / k ^ m), Nat.mul_assoc, Nat.add_assoc]
  obtain ⟨d1, d2⟩ := dm_u (dm_lt (Nat.mod_lt A hM) hB) h2
  unfold tn
  rw [e1, d1, d2, Nat.add_mul, Nat.mul_assoc, ← Nat.pow_succ, Nat.add_assoc]
theorem ti_eq {k n w : Nat} (hk : 0 < k) (hw : w < k ^ n) : ∀ t, t ≤ n → ti k n t w = w % k ^ (n - t) * k ^ t + w / k ^ (n - t)
  | 0, _ => by
    show w = _
    rw [Nat.sub_zero, Nat.mod_eq_of_lt hw, Nat.div_eq_of_lt hw, Nat.pow_zero, Nat.mul_one, Nat.add_zero]
  | t + 1, ht => by
    obtain ⟨m, rfl⟩ : ∃ m, n = m + t + 1 := ⟨n - t - 1, by omega⟩
    have ih := ti_eq hk hw t (by omega)
    show tn k (m + t + 1) (ti k (m + t + 1) t w) = _
    have e0 : m + t + 1 - t = m + 1 := by omega
    have e1 : m + t + 1 - (t + 1) = m := by omega
    rw [e0] at ih
    rw [ih, e1]
    have hB : w / k ^ (m + 1) < k ^ t := by
      rw [Nat.div_lt_iff_lt_mul (Nat.pow_pos hk), ← Nat.pow_add]
      rw [show t + (m + 1) = m + t + 1 by omega]
      exact hw
    rw [tn_two hk hB]
    have e2 : w % k ^ (m + 1) % k ^ m = w % k ^ m := Nat.mod_mod_of_dvd w (Nat.pow_dvd_pow k (Nat.le_succ m))
    have e3 : w / k ^ (m + 1) * k + w % k ^ (m + 1) / k ^ m = w / k ^ m := by
      have hM : 0 < k ^ m := Nat.pow_pos hk
      have h := Nat.div_add_mod w (k ^ (m + 1))
      have h2 : w = (w / k ^ (m + 1) * k) * k ^ m + w % k ^ (m + 1) := by
        calc w = k ^ (m + 1) * (w / k ^ (m + 1)) + w % k ^ (m + 1) := h.symm
          _ = _ := by rw [Nat.pow_succ, Nat.mul_comm (k ^ m * k), Nat.mul_assoc (w / _), Nat.mul_comm k]
      have h3 : w / k ^ m = (w % k ^ (m + 1) + (w / k ^ (m + 1) * k) * k ^ m) / k ^ m := by rw [Nat.add_comm, ← h2]
      rw [h3, Nat.add_mul_div_right _ _ hM, Nat.add_comm]
    rw [e2, e3]
theorem ti_n {k n w : Nat} (hk : 0 < k) (hw : w < k ^ n) : ti k n n w = w := by
  rw [ti_eq hk hw n (Nat.le_refl n), Nat.sub_self, Nat.pow_zero, Nat.mod_one, Nat.div_one, Nat.zero_mul, Nat.zero_add]
theorem tn_lt {k n w : Nat} (hk : 0 < k) (hn : 1 ≤ n) (hw : w < k ^ n) : tn k n w < k ^ n := by
  obtain ⟨m, rfl⟩ : ∃ m, n = m + 1 := ⟨n - 1, by omega⟩
  unfold tn
  rw [Nat.add_sub_cancel]
  have h1 : w / k ^ m < k := by
    rw [Nat.div_lt_iff_lt_mul (Nat.pow_pos hk), Nat.mul_comm, ← Nat.pow_succ]
    exact hw
  rw [Nat.pow_succ]
  exact dm_lt (Nat.mod_lt _ (Nat.pow_pos hk)) h1
theorem ti_lt {k n w : Nat} (hk : 0 < k) (hn : 1 ≤ n) (hw : w < k ^ n) : ∀ t, ti k n t w < k ^ n
  | 0 => hw
  | t + 1 => tn_lt hk hn (ti_lt hk hn hw t)
theorem ti_add (k n w a : Nat) : ∀ b, ti k n (a + b) w = ti k n b (ti k n a w)
  | 0 => rfl
  | b + 1 => by
    show tn k n (ti k n (a + b) w) = tn k n (ti k n b (ti k n a w))
    rw [ti_add k n w a b]
/-- the least of the first turnings -/
def lm (k n w : Nat) : Nat → Nat
  | 0 => w
  | t + 1 => min (lm k n w t) (ti k n (t + 1) w)
/-- the LEAST of a word's ring -/
def lo (k n w : Nat) : Nat := lm k n w (n - 1)
/-- after how many turnings, of the first t, the least is first met -/
def ls (k n w : Nat) : Nat → Nat
  | 0 => 0
  | t + 1 => if ti k n (t + 1) w < lm k n w t then t + 1 else ls k n w t
theorem okW.pos {k n : Nat} (h : okW k n) : 0 < k := by have := h.1; omega
theorem okW.le {k n : Nat} (h : okW k n) {i : Nat} (hi : i ≤ n) : k ^ i ≤ 20000 := Nat.le_trans (Nat.pow_le_pow_right h.pos hi) h.2.2.2.2
theorem okW.pp {k n : Nat} (h : okW k n) (i : Nat) : 0 < k ^ i := Nat.pow_pos h.pos
theorem lm_le (k n w : Nat) : ∀ t, lm k n w t ≤ w
  | 0 => Nat.le_refl _
  | t + 1 => Nat.le_trans (Nat.min_le_left _ _) (lm_le k n w t)
theorem lm_lt {k n w : Nat} (hw : w < k ^ n) (t : Nat) : lm k n w t < k ^ n := Nat.lt_of_le_of_lt (lm_le k n w t) hw
/-- the words' object -/
abbrev cW (k n : Nat) : ce := (6, .inl [.ref 4, .int (nI k), .int (nI n), .int (nI (k ^ n)), .int (nI (k ^ (n - 1)))])
def isP (k n : Nat) (f : Nat → Int32) : Prop := ∀ i, i ≤ n → f i = nI (k ^ i)
abbrev Rv (v : Value) (h : ah) : Option Value → ah → Prop := fun r h2 => r = some v ∧ h2 = h
theorem nI_n0 {a : Nat} (h0 : 0 < a) (h : a ≤ 20000) : ¬ nI a = 0 := nI_ne0 h0 (by omega)
end
