section
-- ===== PART A: goes FIRST, ahead of the names: the tables' words, and 'selects' of the private methods out of them =====
/-- a private method of a class that the tables say can be made, by its rows of tables_1 -/
def lw_okq (q : MethodName × Nat) : Prop := (q.1.cls ≠ "java/lang/invoke/MethodHandle" ∧ q.1.cls ≠ "java/lang/invoke/VarHandle") ∧ Cond.instantiable q.1.cls q.2 ∈ tables_1 ∧ Cond.privateMethod q.1 ∈ tables_1 ∧ Cond.instanceMethod q.1 ∈ tables_1
theorem lw_p0 : lw_okq (⟨"WordWheel$Words", "become", "(II)V"⟩, 5) := ⟨⟨by decide +kernel, by decide +kernel⟩, List.mem_of_getElem? (i := 23) (by decide +kernel), List.mem_of_getElem? (i := 29) (by decide +kernel), List.mem_of_getElem? (i := 30) (by decide +kernel)⟩
theorem lw_p1 : lw_okq (⟨"WordWheel$Register", "becomeTurning", "()V"⟩, 14) := ⟨⟨by decide +kernel, by decide +kernel⟩, List.mem_of_getElem? (i := 87) (by decide +kernel), List.mem_of_getElem? (i := 93) (by decide +kernel), List.mem_of_getElem? (i := 94) (by decide +kernel)⟩
theorem lw_p2 : lw_okq (⟨"WordWheel$Register", "forgetExchanges", "()V"⟩, 14) := ⟨⟨by decide +kernel, by decide +kernel⟩, List.mem_of_getElem? (i := 87) (by decide +kernel), List.mem_of_getElem? (i := 100) (by decide +kernel), List.mem_of_getElem? (i := 101) (by decide +kernel)⟩
theorem lw_p3 : lw_okq (⟨"WordWheel$Round", "drop", "()V"⟩, 8) := ⟨⟨by decide +kernel, by decide +kernel⟩, List.mem_of_getElem? (i := 148) (by decide +kernel), List.mem_of_getElem? (i := 286) (by decide +kernel), List.mem_of_getElem? (i := 287) (by decide +kernel)⟩
theorem lw_p4 : lw_okq (⟨"WordWheel$Words", "has", "(I)Z"⟩, 5) := ⟨⟨by decide +kernel, by decide +kernel⟩, List.mem_of_getElem? (i := 23) (by decide +kernel), List.mem_of_getElem? (i := 294) (by decide +kernel), List.mem_of_getElem? (i := 295) (by decide +kernel)⟩
theorem lw_p5 : lw_okq (⟨"WordWheel$Words", "turned", "(II)I"⟩, 5) := ⟨⟨by decide +kernel, by decide +kernel⟩, List.mem_of_getElem? (i := 23) (by decide +kernel), List.mem_of_getElem? (i := 298) (by decide +kernel), List.mem_of_getElem? (i := 299) (by decide +kernel)⟩
theorem lw_p6 : lw_okq (⟨"WordWheel$Words", "leastOf", "(I)I"⟩, 5) := ⟨⟨by decide +kernel, by decide +kernel⟩, List.mem_of_getElem? (i := 23) (by decide +kernel), List.mem_of_getElem? (i := 306) (by decide +kernel), List.mem_of_getElem? (i := 307) (by decide +kernel)⟩
theorem lw_p7 : lw_okq (⟨"WordWheel$Words", "turnedOnce", "(I)I"⟩, 5) := ⟨⟨by decide +kernel, by decide +kernel⟩, List.mem_of_getElem? (i := 23) (by decide +kernel), List.mem_of_getElem? (i := 310) (by decide +kernel), List.mem_of_getElem? (i := 311) (by decide +kernel)⟩
theorem lw_p8 : lw_okq (⟨"WordWheel$Words", "stepsToLeast", "(I)I"⟩, 5) := ⟨⟨by decide +kernel, by decide +kernel⟩, List.mem_of_getElem? (i := 23) (by decide +kernel), List.mem_of_getElem? (i := 321) (by decide +kernel), List.mem_of_getElem? (i := 322) (by decide +kernel)⟩
theorem lw_p9 : lw_okq (⟨"WordWheel$Words", "ringSize", "(I)I"⟩, 5) := ⟨⟨by decide +kernel, by decide +kernel⟩, List.mem_of_getElem? (i := 23) (by decide +kernel), List.mem_of_getElem? (i := 329) (by decide +kernel), List.mem_of_getElem? (i := 330) (by decide +kernel)⟩
theorem lw_p10 : lw_okq (⟨"WordWheel$Words", "backward", "(I)I"⟩, 5) := ⟨⟨by decide +kernel, by decide +kernel⟩, List.mem_of_getElem? (i := 23) (by decide +kernel), List.mem_of_getElem? (i := 337) (by decide +kernel), List.mem_of_getElem? (i := 338) (by decide +kernel)⟩
theorem lw_p11 : lw_okq (⟨"WordWheel$RingCounter", "ringsUpTo", "(I)I"⟩, 4) := ⟨⟨by decide +kernel, by decide +kernel⟩, List.mem_of_getElem? (i := 68) (by decide +kernel), List.mem_of_getElem? (i := 345) (by decide +kernel), List.mem_of_getElem? (i := 346) (by decide +kernel)⟩
theorem lw_p12 : lw_okq (⟨"WordWheel$RingCounter", "greatestRepeated", "(II)I"⟩, 4) := ⟨⟨by decide +kernel, by decide +kernel⟩, List.mem_of_getElem? (i := 68) (by decide +kernel), List.mem_of_getElem? (i := 351) (by decide +kernel), List.mem_of_getElem? (i := 352) (by decide +kernel)⟩
theorem lw_p13 : lw_okq (⟨"WordWheel$RingCounter", "wordsUpTo", "(II)I"⟩, 4) := ⟨⟨by decide +kernel, by decide +kernel⟩, List.mem_of_getElem? (i := 68) (by decide +kernel), List.mem_of_getElem? (i := 355) (by decide +kernel), List.mem_of_getElem? (i := 356) (by decide +kernel)⟩
theorem lw_p14 : lw_okq (⟨"WordWheel$RingCounter", "lowerToBeginning", "(I)V"⟩, 4) := ⟨⟨by decide +kernel, by decide +kernel⟩, List.mem_of_getElem? (i := 68) (by decide +kernel), List.mem_of_getElem? (i := 359) (by decide +kernel), List.mem_of_getElem? (i := 360) (by decide +kernel)⟩
theorem lw_p15 : lw_okq (⟨"WordWheel$RingCounter", "firstFault", "(I)I"⟩, 4) := ⟨⟨by decide +kernel, by decide +kernel⟩, List.mem_of_getElem? (i := 68) (by decide +kernel), List.mem_of_getElem? (i := 363) (by decide +kernel), List.mem_of_getElem? (i := 364) (by decide +kernel)⟩
def lw_privs_1 : List (MethodName × Nat) := [(⟨"WordWheel$Words", "become", "(II)V"⟩, 5), (⟨"WordWheel$Register", "becomeTurning", "()V"⟩, 14), (⟨"WordWheel$Register", "forgetExchanges", "()V"⟩, 14), (⟨"WordWheel$Round", "drop", "()V"⟩, 8), (⟨"WordWheel$Words", "has", "(I)Z"⟩, 5), (⟨"WordWheel$Words", "turned", "(II)I"⟩, 5), (⟨"WordWheel$Words", "leastOf", "(I)I"⟩, 5), (⟨"WordWheel$Words", "turnedOnce", "(I)I"⟩, 5), (⟨"WordWheel$Words", "stepsToLeast", "(I)I"⟩, 5), (⟨"WordWheel$Words", "ringSize", "(I)I"⟩, 5), (⟨"WordWheel$Words", "backward", "(I)I"⟩, 5), (⟨"WordWheel$RingCounter", "ringsUpTo", "(I)I"⟩, 4), (⟨"WordWheel$RingCounter", "greatestRepeated", "(II)I"⟩, 4), (⟨"WordWheel$RingCounter", "wordsUpTo", "(II)I"⟩, 4), (⟨"WordWheel$RingCounter", "lowerToBeginning", "(I)V"⟩, 4), (⟨"WordWheel$RingCounter", "firstFault", "(I)I"⟩, 4)]
theorem lw_r1 : ∀ q ∈ lw_privs_1, lw_okq q := List.forall_mem_cons.mpr ⟨lw_p0, List.forall_mem_cons.mpr ⟨lw_p1, List.forall_mem_cons.mpr ⟨lw_p2, List.forall_mem_cons.mpr ⟨lw_p3, List.forall_mem_cons.mpr ⟨lw_p4, List.forall_mem_cons.mpr ⟨lw_p5, List.forall_mem_cons.mpr ⟨lw_p6, List.forall_mem_cons.mpr ⟨lw_p7, List.forall_mem_cons.mpr ⟨lw_p8, List.forall_mem_cons.mpr ⟨lw_p9, List.forall_mem_cons.mpr ⟨lw_p10, List.forall_mem_cons.mpr ⟨lw_p11, List.forall_mem_cons.mpr ⟨lw_p12, List.forall_mem_cons.mpr ⟨lw_p13, List.forall_mem_cons.mpr ⟨lw_p14, List.forall_mem_cons.mpr ⟨lw_p15, fun _ h => absurd h List.not_mem_nil⟩⟩⟩⟩⟩⟩⟩⟩⟩⟩⟩⟩⟩⟩⟩⟩
theorem lw_p16 : lw_okq (⟨"WordWheel$RingCounter", "wordsAboveRow", "(I)I"⟩, 4) := ⟨⟨by decide +kernel, by decide +kernel⟩, List.mem_of_getElem? (i := 68) (by decide +kernel), List.mem_of_getElem? (i := 373) (by decide +kernel), List.mem_of_getElem? (i := 374) (by decide +kernel)⟩
theorem lw_p17 : lw_okq (⟨"WordWheel$RingCounter", "greaterThan", "(I)I"⟩, 4) := ⟨⟨by decide +kernel, by decide +kernel⟩, List.mem_of_getElem? (i := 68) (by decide +kernel), List.mem_of_getElem? (i := 377) (by decide +kernel), List.mem_of_getElem? (i := 378) (by decide +kernel)⟩
theorem lw_p18 : lw_okq (⟨"WordWheel$RingCounter", "leastOfRing", "(I)I"⟩, 4) := ⟨⟨by decide +kernel, by decide +kernel⟩, List.mem_of_getElem? (i := 68) (by decide +kernel), List.mem_of_getElem? (i := 390) (by decide +kernel), List.mem_of_getElem? (i := 391) (by decide +kernel)⟩
theorem lw_p19 : lw_okq (⟨"WordWheel$RingCounter", "takeAmounts", "(IIIII)Z"⟩, 4) := ⟨⟨by decide +kernel, by decide +kernel⟩, List.mem_of_getElem? (i := 68) (by decide +kernel), List.mem_of_getElem? (i := 404) (by decide +kernel), List.mem_of_getElem? (i := 405) (by decide +kernel)⟩
theorem lw_p20 : lw_okq (⟨"WordWheel$Words", "isLetter", "(I)Z"⟩, 5) := ⟨⟨by decide +kernel, by decide +kernel⟩, List.mem_of_getElem? (i := 23) (by decide +kernel), List.mem_of_getElem? (i := 408) (by decide +kernel), List.mem_of_getElem? (i := 409) (by decide +kernel)⟩
theorem lw_p21 : lw_okq (⟨"WordWheel$RingCounter", "ringsOfAmounts", "()I"⟩, 4) := ⟨⟨by decide +kernel, by decide +kernel⟩, List.mem_of_getElem? (i := 68) (by decide +kernel), List.mem_of_getElem? (i := 412) (by decide +kernel), List.mem_of_getElem? (i := 413) (by decide +kernel)⟩
theorem lw_p22 : lw_okq (⟨"WordWheel$RingCounter", "allDivisible", "(I)Z"⟩, 4) := ⟨⟨by decide +kernel, by decide +kernel⟩, List.mem_of_getElem? (i := 68) (by decide +kernel), List.mem_of_getElem? (i := 416) (by decide +kernel), List.mem_of_getElem? (i := 417) (by decide +kernel)⟩
theorem lw_p23 : lw_okq (⟨"WordWheel$RingCounter", "arrangements", "(I)J"⟩, 4) := ⟨⟨by decide +kernel, by decide +kernel⟩, List.mem_of_getElem? (i := 68) (by decide +kernel), List.mem_of_getElem? (i := 420) (by decide +kernel), List.mem_of_getElem? (i := 421) (by decide +kernel)⟩
theorem lw_p24 : lw_okq (⟨"WordWheel$Register", "changeFactor", "(II)I"⟩, 14) := ⟨⟨by decide +kernel, by decide +kernel⟩, List.mem_of_getElem? (i := 87) (by decide +kernel), List.mem_of_getElem? (i := 429) (by decide +kernel), List.mem_of_getElem? (i := 430) (by decide +kernel)⟩
theorem lw_p25 : lw_okq (⟨"WordWheel$Register", "changeSum", "(I)I"⟩, 14) := ⟨⟨by decide +kernel, by decide +kernel⟩, List.mem_of_getElem? (i := 87) (by decide +kernel), List.mem_of_getElem? (i := 437) (by decide +kernel), List.mem_of_getElem? (i := 438) (by decide +kernel)⟩
theorem lw_p26 : lw_okq (⟨"WordWheel$Register", "leadOf", "(I)I"⟩, 14) := ⟨⟨by decide +kernel, by decide +kernel⟩, List.mem_of_getElem? (i := 87) (by decide +kernel), List.mem_of_getElem? (i := 445) (by decide +kernel), List.mem_of_getElem? (i := 446) (by decide +kernel)⟩
theorem lw_p27 : lw_okq (⟨"WordWheel$Register", "leads", "()[I"⟩, 14) := ⟨⟨by decide +kernel, by decide +kernel⟩, List.mem_of_getElem? (i := 87) (by decide +kernel), List.mem_of_getElem? (i := 449) (by decide +kernel), List.mem_of_getElem? (i := 450) (by decide +kernel)⟩
theorem lw_p28 : lw_okq (⟨"WordWheel$Register", "fillComing", "()V"⟩, 14) := ⟨⟨by decide +kernel, by decide +kernel⟩, List.mem_of_getElem? (i := 87) (by decide +kernel), List.mem_of_getElem? (i := 453) (by decide +kernel), List.mem_of_getElem? (i := 454) (by decide +kernel)⟩
theorem lw_p29 : lw_okq (⟨"WordWheel$Register", "isRight", "()Z"⟩, 14) := ⟨⟨by decide +kernel, by decide +kernel⟩, List.mem_of_getElem? (i := 87) (by decide +kernel), List.mem_of_getElem? (i := 461) (by decide +kernel), List.mem_of_getElem? (i := 462) (by decide +kernel)⟩
theorem lw_p30 : lw_okq (⟨"WordWheel$Words", "differInFirst", "(II)Z"⟩, 5) := ⟨⟨by decide +kernel, by decide +kernel⟩, List.mem_of_getElem? (i := 23) (by decide +kernel), List.mem_of_getElem? (i := 469) (by decide +kernel), List.mem_of_getElem? (i := 470) (by decide +kernel)⟩
theorem lw_p31 : lw_okq (⟨"WordWheel$Register", "isFull", "()Z"⟩, 14) := ⟨⟨by decide +kernel, by decide +kernel⟩, List.mem_of_getElem? (i := 87) (by decide +kernel), List.mem_of_getElem? (i := 473) (by decide +kernel), List.mem_of_getElem? (i := 474) (by decide +kernel)⟩
def lw_privs_2 : List (MethodName × Nat) := [(⟨"WordWheel$RingCounter", "wordsAboveRow", "(I)I"⟩, 4), (⟨"WordWheel$RingCounter", "greaterThan", "(I)I"⟩, 4), (⟨"WordWheel$RingCounter", "leastOfRing", "(I)I"⟩, 4), (⟨"WordWheel$RingCounter", "takeAmounts", "(IIIII)Z"⟩, 4), (⟨"WordWheel$Words", "isLetter", "(I)Z"⟩, 5), (⟨"WordWheel$RingCounter", "ringsOfAmounts", "()I"⟩, 4), (⟨"WordWheel$RingCounter", "allDivisible", "(I)Z"⟩, 4), (⟨"WordWheel$RingCounter", "arrangements", "(I)J"⟩, 4), (⟨"WordWheel$Register", "changeFactor", "(II)I"⟩, 14), (⟨"WordWheel$Register", "changeSum", "(I)I"⟩, 14), (⟨"WordWheel$Register", "leadOf", "(I)I"⟩, 14), (⟨"WordWheel$Register", "leads", "()[I"⟩, 14), (⟨"WordWheel$Register", "fillComing", "()V"⟩, 14), (⟨"WordWheel$Register", "isRight", "()Z"⟩, 14), (⟨"WordWheel$Words", "differInFirst", "(II)Z"⟩, 5), (⟨"WordWheel$Register", "isFull", "()Z"⟩, 14)]
theorem lw_r2 : ∀ q ∈ lw_privs_2, lw_okq q := List.forall_mem_cons.mpr ⟨lw_p16, List.forall_mem_cons.mpr ⟨lw_p17, List.forall_mem_cons.mpr ⟨lw_p18, List.forall_mem_cons.mpr ⟨lw_p19, List.forall_mem_cons.mpr ⟨lw_p20, List.forall_mem_cons.mpr ⟨lw_p21, List.forall_mem_cons.mpr ⟨lw_p22, List.forall_mem_cons.mpr ⟨lw_p23, List.forall_mem_cons.mpr ⟨lw_p24, List.forall_mem_cons.mpr ⟨lw_p25, List.forall_mem_cons.mpr ⟨lw_p26, List.forall_mem_cons.mpr ⟨lw_p27, List.forall_mem_cons.mpr ⟨lw_p28, List.forall_mem_cons.mpr ⟨lw_p29, List.forall_mem_cons.mpr ⟨lw_p30, List.forall_mem_cons.mpr ⟨lw_p31, fun _ h => absurd h List.not_mem_nil⟩⟩⟩⟩⟩⟩⟩⟩⟩⟩⟩⟩⟩⟩⟩⟩
theorem lw_p32 : lw_okq (⟨"WordWheel$Register", "makeExchange", "(II)I"⟩, 14) := ⟨⟨by decide +kernel, by decide +kernel⟩, List.mem_of_getElem? (i := 87) (by decide +kernel), List.mem_of_getElem? (i := 477) (by decide +kernel), List.mem_of_getElem? (i := 478) (by decide +kernel)⟩
theorem lw_p33 : lw_okq (⟨"WordWheel$Register", "countBehindExchange", "(II)I"⟩, 14) := ⟨⟨by decide +kernel, by decide +kernel⟩, List.mem_of_getElem? (i := 87) (by decide +kernel), List.mem_of_getElem? (i := 481) (by decide +kernel), List.mem_of_getElem? (i := 482) (by decide +kernel)⟩
theorem lw_p34 : lw_okq (⟨"WordWheel$Register", "howManyCycles", "()I"⟩, 14) := ⟨⟨by decide +kernel, by decide +kernel⟩, List.mem_of_getElem? (i := 87) (by decide +kernel), List.mem_of_getElem? (i := 485) (by decide +kernel), List.mem_of_getElem? (i := 486) (by decide +kernel)⟩
theorem lw_p35 : lw_okq (⟨"WordWheel$Register", "numberCycles", "()V"⟩, 14) := ⟨⟨by decide +kernel, by decide +kernel⟩, List.mem_of_getElem? (i := 87) (by decide +kernel), List.mem_of_getElem? (i := 489) (by decide +kernel), List.mem_of_getElem? (i := 490) (by decide +kernel)⟩
theorem lw_p36 : lw_okq (⟨"WordWheel$Register", "markCycle", "(II)V"⟩, 14) := ⟨⟨by decide +kernel, by decide +kernel⟩, List.mem_of_getElem? (i := 87) (by decide +kernel), List.mem_of_getElem? (i := 494) (by decide +kernel), List.mem_of_getElem? (i := 495) (by decide +kernel)⟩
theorem lw_p37 : lw_okq (⟨"WordWheel$Register", "inOneCycle", "(II)Z"⟩, 14) := ⟨⟨by decide +kernel, by decide +kernel⟩, List.mem_of_getElem? (i := 87) (by decide +kernel), List.mem_of_getElem? (i := 498) (by decide +kernel), List.mem_of_getElem? (i := 499) (by decide +kernel)⟩
theorem lw_p38 : lw_okq (⟨"WordWheel$Register", "swapLeads", "(II)V"⟩, 14) := ⟨⟨by decide +kernel, by decide +kernel⟩, List.mem_of_getElem? (i := 87) (by decide +kernel), List.mem_of_getElem? (i := 502) (by decide +kernel), List.mem_of_getElem? (i := 503) (by decide +kernel)⟩
theorem lw_p39 : lw_okq (⟨"WordWheel$Register", "noteExchange", "(II)V"⟩, 14) := ⟨⟨by decide +kernel, by decide +kernel⟩, List.mem_of_getElem? (i := 87) (by decide +kernel), List.mem_of_getElem? (i := 506) (by decide +kernel), List.mem_of_getElem? (i := 507) (by decide +kernel)⟩
theorem lw_p40 : lw_okq (⟨"WordWheel$Register", "takeBack", "()I"⟩, 14) := ⟨⟨by decide +kernel, by decide +kernel⟩, List.mem_of_getElem? (i := 87) (by decide +kernel), List.mem_of_getElem? (i := 514) (by decide +kernel), List.mem_of_getElem? (i := 515) (by decide +kernel)⟩
theorem lw_p41 : lw_okq (⟨"WordWheel$Register", "numberOfCycle", "(I)I"⟩, 14) := ⟨⟨by decide +kernel, by decide +kernel⟩, List.mem_of_getElem? (i := 87) (by decide +kernel), List.mem_of_getElem? (i := 527) (by decide +kernel), List.mem_of_getElem? (i := 528) (by decide +kernel)⟩
theorem lw_p42 : lw_okq (⟨"WordWheel$Register", "leastOfCycle", "(I)I"⟩, 14) := ⟨⟨by decide +kernel, by decide +kernel⟩, List.mem_of_getElem? (i := 87) (by decide +kernel), List.mem_of_getElem? (i := 535) (by decide +kernel), List.mem_of_getElem? (i := 536) (by decide +kernel)⟩
theorem lw_p43 : lw_okq (⟨"WordWheel$Register", "wordsOfCycle", "(I)I"⟩, 14) := ⟨⟨by decide +kernel, by decide +kernel⟩, List.mem_of_getElem? (i := 87) (by decide +kernel), List.mem_of_getElem? (i := 539) (by decide +kernel), List.mem_of_getElem? (i := 540) (by decide +kernel)⟩
theorem lw_p44 : lw_okq (⟨"WordWheel$Register", "joinCycles", "()I"⟩, 14) := ⟨⟨by decide +kernel, by decide +kernel⟩, List.mem_of_getElem? (i := 87) (by decide +kernel), List.mem_of_getElem? (i := 547) (by decide +kernel), List.mem_of_getElem? (i := 548) (by decide +kernel)⟩
theorem lw_p45 : lw_okq (⟨"WordWheel$Register", "joinAt", "(II)Z"⟩, 14) := ⟨⟨by decide +kernel, by decide +kernel⟩, List.mem_of_getElem? (i := 87) (by decide +kernel), List.mem_of_getElem? (i := 551) (by decide +kernel), List.mem_of_getElem? (i := 552) (by decide +kernel)⟩
theorem lw_p46 : lw_okq (⟨"WordWheel$Round", "becomeLeast", "()V"⟩, 8) := ⟨⟨by decide +kernel, by decide +kernel⟩, List.mem_of_getElem? (i := 148) (by decide +kernel), List.mem_of_getElem? (i := 559) (by decide +kernel), List.mem_of_getElem? (i := 560) (by decide +kernel)⟩
theorem lw_p47 : lw_okq (⟨"WordWheel$Round", "nextRow", "(I)I"⟩, 8) := ⟨⟨by decide +kernel, by decide +kernel⟩, List.mem_of_getElem? (i := 148) (by decide +kernel), List.mem_of_getElem? (i := 564) (by decide +kernel), List.mem_of_getElem? (i := 565) (by decide +kernel)⟩
def lw_privs_3 : List (MethodName × Nat) := [(⟨"WordWheel$Register", "makeExchange", "(II)I"⟩, 14), (⟨"WordWheel$Register", "countBehindExchange", "(II)I"⟩, 14), (⟨"WordWheel$Register", "howManyCycles", "()I"⟩, 14), (⟨"WordWheel$Register", "numberCycles", "()V"⟩, 14), (⟨"WordWheel$Register", "markCycle", "(II)V"⟩, 14), (⟨"WordWheel$Register", "inOneCycle", "(II)Z"⟩, 14), (⟨"WordWheel$Register", "swapLeads", "(II)V"⟩, 14), (⟨"WordWheel$Register", "noteExchange", "(II)V"⟩, 14), (⟨"WordWheel$Register", "takeBack", "()I"⟩, 14), (⟨"WordWheel$Register", "numberOfCycle", "(I)I"⟩, 14), (⟨"WordWheel$Register", "leastOfCycle", "(I)I"⟩, 14), (⟨"WordWheel$Register", "wordsOfCycle", "(I)I"⟩, 14), (⟨"WordWheel$Register", "joinCycles", "()I"⟩, 14), (⟨"WordWheel$Register", "joinAt", "(II)Z"⟩, 14), (⟨"WordWheel$Round", "becomeLeast", "()V"⟩, 8), (⟨"WordWheel$Round", "nextRow", "(I)I"⟩, 8)]
theorem lw_r3 : ∀ q ∈ lw_privs_3, lw_okq q := List.forall_mem_cons.mpr ⟨lw_p32, List.forall_mem_cons.mpr ⟨lw_p33, List.forall_mem_cons.mpr ⟨lw_p34, List.forall_mem_cons.mpr ⟨lw_p35, List.forall_mem_cons.mpr ⟨lw_p36, List.forall_mem_cons.mpr ⟨lw_p37, List.forall_mem_cons.mpr ⟨lw_p38, List.forall_mem_cons.mpr ⟨lw_p39, List.forall_mem_cons.mpr ⟨lw_p40, List.forall_mem_cons.mpr ⟨lw_p41, List.forall_mem_cons.mpr ⟨lw_p42, List.forall_mem_cons.mpr ⟨lw_p43, List.forall_mem_cons.mpr ⟨lw_p44, List.forall_mem_cons.mpr ⟨lw_p45, List.forall_mem_cons.mpr ⟨lw_p46, List.forall_mem_cons.mpr ⟨lw_p47, fun _ h => absurd h List.not_mem_nil⟩⟩⟩⟩⟩⟩⟩⟩⟩⟩⟩⟩⟩⟩⟩⟩
theorem lw_p48 : lw_okq (⟨"WordWheel$Round", "findPlaces", "()V"⟩, 8) := ⟨⟨by decide +kernel, by decide +kernel⟩, List.mem_of_getElem? (i := 148) (by decide +kernel), List.mem_of_getElem? (i := 568) (by decide +kernel), List.mem_of_getElem? (i := 569) (by decide +kernel)⟩
theorem lw_p49 : lw_okq (⟨"WordWheel$Round", "becomeGreedy", "()V"⟩, 8) := ⟨⟨by decide +kernel, by decide +kernel⟩, List.mem_of_getElem? (i := 148) (by decide +kernel), List.mem_of_getElem? (i := 572) (by decide +kernel), List.mem_of_getElem? (i := 573) (by decide +kernel)⟩
theorem lw_p50 : lw_okq (⟨"WordWheel$Round", "greatestNew", "(I)I"⟩, 8) := ⟨⟨by decide +kernel, by decide +kernel⟩, List.mem_of_getElem? (i := 148) (by decide +kernel), List.mem_of_getElem? (i := 580) (by decide +kernel), List.mem_of_getElem? (i := 581) (by decide +kernel)⟩
theorem lw_p51 : lw_okq (⟨"WordWheel$Round", "becomeCycle", "([I)V"⟩, 8) := ⟨⟨by decide +kernel, by decide +kernel⟩, List.mem_of_getElem? (i := 148) (by decide +kernel), List.mem_of_getElem? (i := 585) (by decide +kernel), List.mem_of_getElem? (i := 586) (by decide +kernel)⟩
theorem lw_p52 : lw_okq (⟨"WordWheel$Round", "isPlace", "(I)Z"⟩, 8) := ⟨⟨by decide +kernel, by decide +kernel⟩, List.mem_of_getElem? (i := 148) (by decide +kernel), List.mem_of_getElem? (i := 593) (by decide +kernel), List.mem_of_getElem? (i := 594) (by decide +kernel)⟩
theorem lw_p53 : lw_okq (⟨"WordWheel$Round", "isThere", "()Z"⟩, 8) := ⟨⟨by decide +kernel, by decide +kernel⟩, List.mem_of_getElem? (i := 148) (by decide +kernel), List.mem_of_getElem? (i := 597) (by decide +kernel), List.mem_of_getElem? (i := 598) (by decide +kernel)⟩
theorem lw_p54 : lw_okq (⟨"WordWheel", "finding", "(I)I"⟩, 9) := ⟨⟨by decide +kernel, by decide +kernel⟩, List.mem_of_getElem? (i := 15) (by decide +kernel), List.mem_of_getElem? (i := 621) (by decide +kernel), List.mem_of_getElem? (i := 622) (by decide +kernel)⟩
theorem lw_p55 : lw_okq (⟨"WordWheel$Tape", "begin", "(II)V"⟩, 5) := ⟨⟨by decide +kernel, by decide +kernel⟩, List.mem_of_getElem? (i := 186) (by decide +kernel), List.mem_of_getElem? (i := 625) (by decide +kernel), List.mem_of_getElem? (i := 626) (by decide +kernel)⟩
theorem lw_p56 : lw_okq (⟨"WordWheel$Tape", "isLost", "()Z"⟩, 5) := ⟨⟨by decide +kernel, by decide +kernel⟩, List.mem_of_getElem? (i := 186) (by decide +kernel), List.mem_of_getElem? (i := 634) (by decide +kernel), List.mem_of_getElem? (i := 635) (by decide +kernel)⟩
theorem lw_p57 : lw_okq (⟨"WordWheel$Tape", "drop", "()I"⟩, 5) := ⟨⟨by decide +kernel, by decide +kernel⟩, List.mem_of_getElem? (i := 186) (by decide +kernel), List.mem_of_getElem? (i := 638) (by decide +kernel), List.mem_of_getElem? (i := 639) (by decide +kernel)⟩
theorem lw_p58 : lw_okq (⟨"WordWheel$Tape", "hasItems", "(II)Z"⟩, 5) := ⟨⟨by decide +kernel, by decide +kernel⟩, List.mem_of_getElem? (i := 186) (by decide +kernel), List.mem_of_getElem? (i := 649) (by decide +kernel), List.mem_of_getElem? (i := 650) (by decide +kernel)⟩
theorem lw_p59 : lw_okq (⟨"WordWheel$Tape", "fitted", "(I)I"⟩, 5) := ⟨⟨by decide +kernel, by decide +kernel⟩, List.mem_of_getElem? (i := 186) (by decide +kernel), List.mem_of_getElem? (i := 653) (by decide +kernel), List.mem_of_getElem? (i := 654) (by decide +kernel)⟩
theorem lw_p60 : lw_okq (⟨"WordWheel$Round", "writeLetters", "(II[II)V"⟩, 8) := ⟨⟨by decide +kernel, by decide +kernel⟩, List.mem_of_getElem? (i := 148) (by decide +kernel), List.mem_of_getElem? (i := 673) (by decide +kernel), List.mem_of_getElem? (i := 674) (by decide +kernel)⟩
theorem lw_p61 : lw_okq (⟨"WordWheel$Round", "countMatches", "([IIII)I"⟩, 8) := ⟨⟨by decide +kernel, by decide +kernel⟩, List.mem_of_getElem? (i := 148) (by decide +kernel), List.mem_of_getElem? (i := 681) (by decide +kernel), List.mem_of_getElem? (i := 682) (by decide +kernel)⟩
theorem lw_p62 : lw_okq (⟨"WordWheel$Round", "noteSlips", "([III)V"⟩, 8) := ⟨⟨by decide +kernel, by decide +kernel⟩, List.mem_of_getElem? (i := 148) (by decide +kernel), List.mem_of_getElem? (i := 685) (by decide +kernel), List.mem_of_getElem? (i := 686) (by decide +kernel)⟩
theorem lw_p63 : lw_okq (⟨"WordWheel$Round", "noteFirstPlaces", "(I)I"⟩, 8) := ⟨⟨by decide +kernel, by decide +kernel⟩, List.mem_of_getElem? (i := 148) (by decide +kernel), List.mem_of_getElem? (i := 693) (by decide +kernel), List.mem_of_getElem? (i := 694) (by decide +kernel)⟩
def lw_privs_4 : List (MethodName × Nat) := [(⟨"WordWheel$Round", "findPlaces", "()V"⟩, 8), (⟨"WordWheel$Round", "becomeGreedy", "()V"⟩, 8), (⟨"WordWheel$Round", "greatestNew", "(I)I"⟩, 8), (⟨"WordWheel$Round", "becomeCycle", "([I)V"⟩, 8), (⟨"WordWheel$Round", "isPlace", "(I)Z"⟩, 8), (⟨"WordWheel$Round", "isThere", "()Z"⟩, 8), (⟨"WordWheel", "finding", "(I)I"⟩, 9), (⟨"WordWheel$Tape", "begin", "(II)V"⟩, 5), (⟨"WordWheel$Tape", "isLost", "()Z"⟩, 5), (⟨"WordWheel$Tape", "drop", "()I"⟩, 5), (⟨"WordWheel$Tape", "hasItems", "(II)Z"⟩, 5), (⟨"WordWheel$Tape", "fitted", "(I)I"⟩, 5), (⟨"WordWheel$Round", "writeLetters", "(II[II)V"⟩, 8), (⟨"WordWheel$Round", "countMatches", "([IIII)I"⟩, 8), (⟨"WordWheel$Round", "noteSlips", "([III)V"⟩, 8), (⟨"WordWheel$Round", "noteFirstPlaces", "(I)I"⟩, 8)]
theorem lw_r4 : ∀ q ∈ lw_privs_4, lw_okq q := List.forall_mem_cons.mpr ⟨lw_p48, List.forall_mem_cons.mpr ⟨lw_p49, List.forall_mem_cons.mpr ⟨lw_p50, List.forall_mem_cons.mpr ⟨lw_p51, List.forall_mem_cons.mpr ⟨lw_p52, List.forall_mem_cons.mpr ⟨lw_p53, List.forall_mem_cons.mpr ⟨lw_p54, List.forall_mem_cons.mpr ⟨lw_p55, List.forall_mem_cons.mpr ⟨lw_p56, List.forall_mem_cons.mpr ⟨lw_p57, List.forall_mem_cons.mpr ⟨lw_p58, List.forall_mem_cons.mpr ⟨lw_p59, List.forall_mem_cons.mpr ⟨lw_p60, List.forall_mem_cons.mpr ⟨lw_p61, List.forall_mem_cons.mpr ⟨lw_p62, List.forall_mem_cons.mpr ⟨lw_p63, fun _ h => absurd h List.not_mem_nil⟩⟩⟩⟩⟩⟩⟩⟩⟩⟩⟩⟩⟩⟩⟩⟩
theorem lw_p64 : lw_okq (⟨"WordWheel$Tape", "hasBlanks", "()Z"⟩, 5) := ⟨⟨by decide +kernel, by decide +kernel⟩, List.mem_of_getElem? (i := 186) (by decide +kernel), List.mem_of_getElem? (i := 711) (by decide +kernel), List.mem_of_getElem? (i := 712) (by decide +kernel)⟩
theorem lw_p65 : lw_okq (⟨"WordWheel$Tape", "firstRepeated", "()I"⟩, 5) := ⟨⟨by decide +kernel, by decide +kernel⟩, List.mem_of_getElem? (i := 186) (by decide +kernel), List.mem_of_getElem? (i := 716) (by decide +kernel), List.mem_of_getElem? (i := 717) (by decide +kernel)⟩
theorem lw_p66 : lw_okq (⟨"WordWheel$Tape", "wordAt", "(I)I"⟩, 5) := ⟨⟨by decide +kernel, by decide +kernel⟩, List.mem_of_getElem? (i := 186) (by decide +kernel), List.mem_of_getElem? (i := 720) (by decide +kernel), List.mem_of_getElem? (i := 721) (by decide +kernel)⟩
theorem lw_p67 : lw_okq (⟨"WordWheel$Parting", "divide", "([II)I"⟩, 2) := ⟨⟨by decide +kernel, by decide +kernel⟩, List.mem_of_getElem? (i := 211) (by decide +kernel), List.mem_of_getElem? (i := 728) (by decide +kernel), List.mem_of_getElem? (i := 729) (by decide +kernel)⟩
theorem lw_p68 : lw_okq (⟨"WordWheel$Recurring", "learn", "([III)I"⟩, 5) := ⟨⟨by decide +kernel, by decide +kernel⟩, List.mem_of_getElem? (i := 226) (by decide +kernel), List.mem_of_getElem? (i := 740) (by decide +kernel), List.mem_of_getElem? (i := 741) (by decide +kernel)⟩
theorem lw_p69 : lw_okq (⟨"WordWheel$Recurring", "gapAt", "([II)I"⟩, 5) := ⟨⟨by decide +kernel, by decide +kernel⟩, List.mem_of_getElem? (i := 226) (by decide +kernel), List.mem_of_getElem? (i := 745) (by decide +kernel), List.mem_of_getElem? (i := 746) (by decide +kernel)⟩
theorem lw_p70 : lw_okq (⟨"WordWheel$Recurring", "inverse", "(I)I"⟩, 5) := ⟨⟨by decide +kernel, by decide +kernel⟩, List.mem_of_getElem? (i := 226) (by decide +kernel), List.mem_of_getElem? (i := 749) (by decide +kernel), List.mem_of_getElem? (i := 750) (by decide +kernel)⟩
theorem lw_p71 : lw_okq (⟨"WordWheel$Recurring", "lengthen", "(III)V"⟩, 5) := ⟨⟨by decide +kernel, by decide +kernel⟩, List.mem_of_getElem? (i := 226) (by decide +kernel), List.mem_of_getElem? (i := 753) (by decide +kernel), List.mem_of_getElem? (i := 754) (by decide +kernel)⟩
theorem lw_p72 : lw_okq (⟨"WordWheel$Recurring", "subtractEarlier", "(II)V"⟩, 5) := ⟨⟨by decide +kernel, by decide +kernel⟩, List.mem_of_getElem? (i := 226) (by decide +kernel), List.mem_of_getElem? (i := 758) (by decide +kernel), List.mem_of_getElem? (i := 759) (by decide +kernel)⟩
theorem lw_p73 : lw_okq (⟨"WordWheel$Recurring", "lowerNumbers", "(II)V"⟩, 5) := ⟨⟨by decide +kernel, by decide +kernel⟩, List.mem_of_getElem? (i := 226) (by decide +kernel), List.mem_of_getElem? (i := 762) (by decide +kernel), List.mem_of_getElem? (i := 763) (by decide +kernel)⟩
theorem lw_p74 : lw_okq (⟨"WordWheel$Recurring", "coefficientAt", "(I)I"⟩, 5) := ⟨⟨by decide +kernel, by decide +kernel⟩, List.mem_of_getElem? (i := 226) (by decide +kernel), List.mem_of_getElem? (i := 770) (by decide +kernel), List.mem_of_getElem? (i := 771) (by decide +kernel)⟩
theorem lw_p75 : lw_okq (⟨"WordWheelModel", "leastOf", "(I)I"⟩, 33) := ⟨⟨by decide +kernel, by decide +kernel⟩, List.mem_of_getElem? (i := 785) (by decide +kernel), List.mem_of_getElem? (i := 802) (by decide +kernel), List.mem_of_getElem? (i := 803) (by decide +kernel)⟩
theorem lw_p76 : lw_okq (⟨"WordWheelModel", "next", "(I)I"⟩, 33) := ⟨⟨by decide +kernel, by decide +kernel⟩, List.mem_of_getElem? (i := 785) (by decide +kernel), List.mem_of_getElem? (i := 806) (by decide +kernel), List.mem_of_getElem? (i := 807) (by decide +kernel)⟩
theorem lw_p77 : lw_okq (⟨"WordWheelModel", "lead", "()V"⟩, 33) := ⟨⟨by decide +kernel, by decide +kernel⟩, List.mem_of_getElem? (i := 785) (by decide +kernel), List.mem_of_getElem? (i := 810) (by decide +kernel), List.mem_of_getElem? (i := 811) (by decide +kernel)⟩
theorem lw_p78 : lw_okq (⟨"WordWheelModel", "isWord", "(I)Z"⟩, 33) := ⟨⟨by decide +kernel, by decide +kernel⟩, List.mem_of_getElem? (i := 785) (by decide +kernel), List.mem_of_getElem? (i := 920) (by decide +kernel), List.mem_of_getElem? (i := 921) (by decide +kernel)⟩
theorem lw_p79 : lw_okq (⟨"WordWheelModel", "sizeOf", "(I)I"⟩, 33) := ⟨⟨by decide +kernel, by decide +kernel⟩, List.mem_of_getElem? (i := 785) (by decide +kernel), List.mem_of_getElem? (i := 937) (by decide +kernel), List.mem_of_getElem? (i := 938) (by decide +kernel)⟩
def lw_privs_5 : List (MethodName × Nat) := [(⟨"WordWheel$Tape", "hasBlanks", "()Z"⟩, 5), (⟨"WordWheel$Tape", "firstRepeated", "()I"⟩, 5), (⟨"WordWheel$Tape", "wordAt", "(I)I"⟩, 5), (⟨"WordWheel$Parting", "divide", "([II)I"⟩, 2), (⟨"WordWheel$Recurring", "learn", "([III)I"⟩, 5), (⟨"WordWheel$Recurring", "gapAt", "([II)I"⟩, 5), (⟨"WordWheel$Recurring", "inverse", "(I)I"⟩, 5), (⟨"WordWheel$Recurring", "lengthen", "(III)V"⟩, 5), (⟨"WordWheel$Recurring", "subtractEarlier", "(II)V"⟩, 5), (⟨"WordWheel$Recurring", "lowerNumbers", "(II)V"⟩, 5), (⟨"WordWheel$Recurring", "coefficientAt", "(I)I"⟩, 5), (⟨"WordWheelModel", "leastOf", "(I)I"⟩, 33), (⟨"WordWheelModel", "next", "(I)I"⟩, 33), (⟨"WordWheelModel", "lead", "()V"⟩, 33), (⟨"WordWheelModel", "isWord", "(I)Z"⟩, 33), (⟨"WordWheelModel", "sizeOf", "(I)I"⟩, 33)]
theorem lw_r5 : ∀ q ∈ lw_privs_5, lw_okq q := List.forall_mem_cons.mpr ⟨lw_p64, List.forall_mem_cons.mpr ⟨lw_p65, List.forall_mem_cons.mpr ⟨lw_p66, List.forall_mem_cons.mpr ⟨lw_p67, List.forall_mem_cons.mpr ⟨lw_p68, List.forall_mem_cons.mpr ⟨lw_p69, List.forall_mem_cons.mpr ⟨lw_p70, List.forall_mem_cons.mpr ⟨lw_p71, List.forall_mem_cons.mpr ⟨lw_p72, List.forall_mem_cons.mpr ⟨lw_p73, List.forall_mem_cons.mpr ⟨lw_p74, List.forall_mem_cons.mpr ⟨lw_p75, List.forall_mem_cons.mpr ⟨lw_p76, List.forall_mem_cons.mpr ⟨lw_p77, List.forall_mem_cons.mpr ⟨lw_p78, List.forall_mem_cons.mpr ⟨lw_p79, fun _ h => absurd h List.not_mem_nil⟩⟩⟩⟩⟩⟩⟩⟩⟩⟩⟩⟩⟩⟩⟩⟩
theorem lw_p80 : lw_okq (⟨"WordWheelModel", "hasWanted", "(I)Z"⟩, 33) := ⟨⟨by decide +kernel, by decide +kernel⟩, List.mem_of_getElem? (i := 785) (by decide +kernel), List.mem_of_getElem? (i := 965) (by decide +kernel), List.mem_of_getElem? (i := 966) (by decide +kernel)⟩
theorem lw_p81 : lw_okq (⟨"WordWheelModel", "isRight", "()Z"⟩, 33) := ⟨⟨by decide +kernel, by decide +kernel⟩, List.mem_of_getElem? (i := 785) (by decide +kernel), List.mem_of_getElem? (i := 985) (by decide +kernel), List.mem_of_getElem? (i := 986) (by decide +kernel)⟩
theorem lw_p82 : lw_okq (⟨"WordWheelModel", "swap", "(II)V"⟩, 33) := ⟨⟨by decide +kernel, by decide +kernel⟩, List.mem_of_getElem? (i := 785) (by decide +kernel), List.mem_of_getElem? (i := 993) (by decide +kernel), List.mem_of_getElem? (i := 994) (by decide +kernel)⟩
theorem lw_p83 : lw_okq (⟨"WordWheelModel", "findCycles", "()V"⟩, 33) := ⟨⟨by decide +kernel, by decide +kernel⟩, List.mem_of_getElem? (i := 785) (by decide +kernel), List.mem_of_getElem? (i := 997) (by decide +kernel), List.mem_of_getElem? (i := 998) (by decide +kernel)⟩
theorem lw_p84 : lw_okq (⟨"WordWheelModel", "joins", "(Z)I"⟩, 33) := ⟨⟨by decide +kernel, by decide +kernel⟩, List.mem_of_getElem? (i := 785) (by decide +kernel), List.mem_of_getElem? (i := 1021) (by decide +kernel), List.mem_of_getElem? (i := 1022) (by decide +kernel)⟩
theorem lw_p85 : lw_okq (⟨"WordWheelModel", "groupOf", "(I)I"⟩, 33) := ⟨⟨by decide +kernel, by decide +kernel⟩, List.mem_of_getElem? (i := 785) (by decide +kernel), List.mem_of_getElem? (i := 1025) (by decide +kernel), List.mem_of_getElem? (i := 1026) (by decide +kernel)⟩
theorem lw_p86 : lw_okq (⟨"WordWheelModel", "leastRound", "()V"⟩, 33) := ⟨⟨by decide +kernel, by decide +kernel⟩, List.mem_of_getElem? (i := 785) (by decide +kernel), List.mem_of_getElem? (i := 1033) (by decide +kernel), List.mem_of_getElem? (i := 1034) (by decide +kernel)⟩
theorem lw_p87 : lw_okq (⟨"WordWheelModel", "greedyRound", "()V"⟩, 33) := ⟨⟨by decide +kernel, by decide +kernel⟩, List.mem_of_getElem? (i := 785) (by decide +kernel), List.mem_of_getElem? (i := 1037) (by decide +kernel), List.mem_of_getElem? (i := 1038) (by decide +kernel)⟩
theorem lw_p88 : lw_okq (⟨"WordWheelModel", "met", "(I)I"⟩, 33) := ⟨⟨by decide +kernel, by decide +kernel⟩, List.mem_of_getElem? (i := 785) (by decide +kernel), List.mem_of_getElem? (i := 1061) (by decide +kernel), List.mem_of_getElem? (i := 1062) (by decide +kernel)⟩
theorem lw_p89 : lw_okq (⟨"WordWheelModel", "lacks", "(III)I"⟩, 33) := ⟨⟨by decide +kernel, by decide +kernel⟩, List.mem_of_getElem? (i := 785) (by decide +kernel), List.mem_of_getElem? (i := 1073) (by decide +kernel), List.mem_of_getElem? (i := 1074) (by decide +kernel)⟩
theorem lw_p90 : lw_okq (⟨"WordWheelModel", "isWithin", "(III)Z"⟩, 33) := ⟨⟨by decide +kernel, by decide +kernel⟩, List.mem_of_getElem? (i := 785) (by decide +kernel), List.mem_of_getElem? (i := 1087) (by decide +kernel), List.mem_of_getElem? (i := 1088) (by decide +kernel)⟩
theorem lw_p91 : lw_okq (⟨"WordWheelModel", "noLetters", "(I)I"⟩, 33) := ⟨⟨by decide +kernel, by decide +kernel⟩, List.mem_of_getElem? (i := 785) (by decide +kernel), List.mem_of_getElem? (i := 1108) (by decide +kernel), List.mem_of_getElem? (i := 1109) (by decide +kernel)⟩
theorem lw_p92 : lw_okq (⟨"WordWheelModel", "leastLength", "(I)I"⟩, 33) := ⟨⟨by decide +kernel, by decide +kernel⟩, List.mem_of_getElem? (i := 785) (by decide +kernel), List.mem_of_getElem? (i := 1124) (by decide +kernel), List.mem_of_getElem? (i := 1125) (by decide +kernel)⟩
theorem lw_p93 : lw_okq (⟨"WordWheelModel", "inverse", "(I)I"⟩, 33) := ⟨⟨by decide +kernel, by decide +kernel⟩, List.mem_of_getElem? (i := 785) (by decide +kernel), List.mem_of_getElem? (i := 1128) (by decide +kernel), List.mem_of_getElem? (i := 1129) (by decide +kernel)⟩
theorem lw_p94 : lw_okq (⟨"WordWheelModel", "solve", "(II)V"⟩, 33) := ⟨⟨by decide +kernel, by decide +kernel⟩, List.mem_of_getElem? (i := 785) (by decide +kernel), List.mem_of_getElem? (i := 1132) (by decide +kernel), List.mem_of_getElem? (i := 1133) (by decide +kernel)⟩
def lw_privs_6 : List (MethodName × Nat) := [(⟨"WordWheelModel", "hasWanted", "(I)Z"⟩, 33), (⟨"WordWheelModel", "isRight", "()Z"⟩, 33), (⟨"WordWheelModel", "swap", "(II)V"⟩, 33), (⟨"WordWheelModel", "findCycles", "()V"⟩, 33), (⟨"WordWheelModel", "joins", "(Z)I"⟩, 33), (⟨"WordWheelModel", "groupOf", "(I)I"⟩, 33), (⟨"WordWheelModel", "leastRound", "()V"⟩, 33), (⟨"WordWheelModel", "greedyRound", "()V"⟩, 33), (⟨"WordWheelModel", "met", "(I)I"⟩, 33), (⟨"WordWheelModel", "lacks", "(III)I"⟩, 33), (⟨"WordWheelModel", "isWithin", "(III)Z"⟩, 33), (⟨"WordWheelModel", "noLetters", "(I)I"⟩, 33), (⟨"WordWheelModel", "leastLength", "(I)I"⟩, 33), (⟨"WordWheelModel", "inverse", "(I)I"⟩, 33), (⟨"WordWheelModel", "solve", "(II)V"⟩, 33)]
theorem lw_r6 : ∀ q ∈ lw_privs_6, lw_okq q := List.forall_mem_cons.mpr ⟨lw_p80, List.forall_mem_cons.mpr ⟨lw_p81, List.forall_mem_cons.mpr ⟨lw_p82, List.forall_mem_cons.mpr ⟨lw_p83, List.forall_mem_cons.mpr ⟨lw_p84, List.forall_mem_cons.mpr ⟨lw_p85, List.forall_mem_cons.mpr ⟨lw_p86, List.forall_mem_cons.mpr ⟨lw_p87, List.forall_mem_cons.mpr ⟨lw_p88, List.forall_mem_cons.mpr ⟨lw_p89, List.forall_mem_cons.mpr ⟨lw_p90, List.forall_mem_cons.mpr ⟨lw_p91, List.forall_mem_cons.mpr ⟨lw_p92, List.forall_mem_cons.mpr ⟨lw_p93, List.forall_mem_cons.mpr ⟨lw_p94, fun _ h => absurd h List.not_mem_nil⟩⟩⟩⟩⟩⟩⟩⟩⟩⟩⟩⟩⟩⟩⟩
def lw_privs : List (MethodName × Nat) := lw_privs_1 ++ (lw_privs_2 ++ (lw_privs_3 ++ (lw_privs_4 ++ (lw_privs_5 ++ (lw_privs_6)))))
def lw_tbl : List Cond := k2_sels lw_privs ++ tables_1
theorem lw_privs_ok : ∀ q ∈ lw_privs, lw_okq q := by
  show ∀ q ∈ lw_privs_1 ++ (lw_privs_2 ++ (lw_privs_3 ++ (lw_privs_4 ++ (lw_privs_5 ++ (lw_privs_6))))), lw_okq q
  exact List.forall_mem_append.mpr ⟨lw_r1, List.forall_mem_append.mpr ⟨lw_r2, List.forall_mem_append.mpr ⟨lw_r3, List.forall_mem_append.mpr ⟨lw_r4, List.forall_mem_append.mpr ⟨lw_r5, lw_r6⟩⟩⟩⟩⟩
end
section
def RX0 : String := "WordWheel$Parting"
def TX0 : u_T := fun k => match k with
  | 0 => ("WordWheel$Parting", "begins", "[I", true)
  | _ => ("WordWheel$Parting", "told", "I", false)
def tyX0 : Nat → FieldType := fun k => match k with
  | 0 => .array .int
  | _ => .int
abbrev wsX00 : List Cond := u_ws RX0 TX0 2
theorem nmX0 : ∀ a, a < 2 → ∀ b, b < 2 → a ≠ b → (TX0 a).2.1 ≠ (TX0 b).2.1 := by decide +kernel
theorem tyX0_ok : ∀ k, k < 2 → parseFieldDescriptor (TX0 k).2.2.1 = some (tyX0 k) := by decide +kernel
abbrev cX0_init : ByteArray := prog_2_method_1_code
def yX0_init : MethodName := ⟨RX0, "<init>", "()V"⟩
abbrev cX0_divide : ByteArray := prog_2_method_2_code
def yX0_divide : MethodName := ⟨RX0, "divide", "([II)I"⟩
def RX1 : String := "WordWheel$Recurring"
def TX1 : u_T := fun k => match k with
  | 0 => ("WordWheel$Recurring", "now", "[I", true)
  | 1 => ("WordWheel$Recurring", "earlier", "[I", true)
  | 2 => ("WordWheel$Recurring", "spare", "[I", true)
  | 3 => ("WordWheel$Recurring", "length", "I", false)
  | _ => ("WordWheel$Recurring", "modulus", "I", false)
def tyX1 : Nat → FieldType := fun k => match k with
  | 0 => .array .int
  | 1 => .array .int
  | 2 => .array .int
  | 3 => .int
  | _ => .int
abbrev wsX10 : List Cond := u_ws RX1 TX1 5
theorem nmX1 : ∀ a, a < 5 → ∀ b, b < 5 → a ≠ b → (TX1 a).2.1 ≠ (TX1 b).2.1 := by decide +kernel
theorem tyX1_ok : ∀ k, k < 5 → parseFieldDescriptor (TX1 k).2.2.1 = some (tyX1 k) := by decide +kernel
abbrev cX1_init : ByteArray := prog_3_method_1_code
def yX1_init : MethodName := ⟨RX1, "<init>", "()V"⟩
abbrev cX1_coefficientAt : ByteArray := prog_3_method_2_code
def yX1_coefficientAt : MethodName := ⟨RX1, "coefficientAt", "(I)I"⟩
abbrev cX1_learn : ByteArray := prog_3_method_3_code
def yX1_learn : MethodName := ⟨RX1, "learn", "([III)I"⟩
abbrev cX1_gapAt : ByteArray := prog_3_method_4_code
def yX1_gapAt : MethodName := ⟨RX1, "gapAt", "([II)I"⟩
abbrev cX1_inverse : ByteArray := prog_3_method_5_code
def yX1_inverse : MethodName := ⟨RX1, "inverse", "(I)I"⟩
abbrev cX1_lengthen : ByteArray := prog_3_method_6_code
def yX1_lengthen : MethodName := ⟨RX1, "lengthen", "(III)V"⟩
abbrev cX1_subtractEarlier : ByteArray := prog_3_method_7_code
def yX1_subtractEarlier : MethodName := ⟨RX1, "subtractEarlier", "(II)V"⟩
abbrev cX1_lowerNumbers : ByteArray := prog_3_method_8_code
def yX1_lowerNumbers : MethodName := ⟨RX1, "lowerNumbers", "(II)V"⟩
def RX2 : String := "WordWheel$Register"
def TX2 : u_T := fun k => match k with
  | 0 => ("WordWheel$Register", "words", "LWordWheel$Words;", true)
  | 1 => ("WordWheel$Register", "factors", "[I", true)
  | 2 => ("WordWheel$Register", "addend", "I", false)
  | 3 => ("WordWheel$Register", "ones", "[I", true)
  | 4 => ("WordWheel$Register", "others", "[I", true)
  | 5 => ("WordWheel$Register", "exchanges", "I", false)
  | 6 => ("WordWheel$Register", "lead", "[I", true)
  | 7 => ("WordWheel$Register", "leadsStand", "Z", false)
  | 8 => ("WordWheel$Register", "cycleNumber", "[I", true)
  | 9 => ("WordWheel$Register", "leastWord", "[I", true)
  | 10 => ("WordWheel$Register", "numbersStand", "Z", false)
  | 11 => ("WordWheel$Register", "cycleCount", "I", false)
  | 12 => ("WordWheel$Register", "countStands", "Z", false)
  | _ => ("WordWheel$Register", "joined", "[I", true)
def tyX2 : Nat → FieldType := fun k => match k with
  | 0 => .object "WordWheel$Words"
  | 1 => .array .int
  | 2 => .int
  | 3 => .array .int
  | 4 => .array .int
  | 5 => .int
  | 6 => .array .int
  | 7 => .boolean
  | 8 => .array .int
  | 9 => .array .int
  | 10 => .boolean
  | 11 => .int
  | 12 => .boolean
  | _ => .array .int
abbrev wsX20 : List Cond := u_ws RX2 TX2 14
theorem nmX2 : ∀ a, a < 14 → ∀ b, b < 14 → a ≠ b → (TX2 a).2.1 ≠ (TX2 b).2.1 := by decide +kernel
theorem tyX2_ok : ∀ k, k < 14 → parseFieldDescriptor (TX2 k).2.2.1 = some (tyX2 k) := by decide +kernel
abbrev cX2_init : ByteArray := prog_4_method_1_code
def yX2_init : MethodName := ⟨RX2, "<init>", "(LWordWheel$Words;)V"⟩
abbrev cX2_becomeTurning : ByteArray := prog_4_method_2_code
def yX2_becomeTurning : MethodName := ⟨RX2, "becomeTurning", "()V"⟩
abbrev cX2_changeFactor : ByteArray := prog_4_method_3_code
def yX2_changeFactor : MethodName := ⟨RX2, "changeFactor", "(II)I"⟩
abbrev cX2_changeSum : ByteArray := prog_4_method_4_code
def yX2_changeSum : MethodName := ⟨RX2, "changeSum", "(I)I"⟩
abbrev cX2_forgetExchanges : ByteArray := prog_4_method_5_code
def yX2_forgetExchanges : MethodName := ⟨RX2, "forgetExchanges", "()V"⟩
abbrev cX2_isRight : ByteArray := prog_4_method_6_code
def yX2_isRight : MethodName := ⟨RX2, "isRight", "()Z"⟩
abbrev cX2_isFull : ByteArray := prog_4_method_7_code
def yX2_isFull : MethodName := ⟨RX2, "isFull", "()Z"⟩
abbrev cX2_leadOf : ByteArray := prog_4_method_8_code
def yX2_leadOf : MethodName := ⟨RX2, "leadOf", "(I)I"⟩
abbrev cX2_leads : ByteArray := prog_4_method_9_code
def yX2_leads : MethodName := ⟨RX2, "leads", "()[I"⟩
abbrev cX2_fillComing : ByteArray := prog_4_method_10_code
def yX2_fillComing : MethodName := ⟨RX2, "fillComing", "()V"⟩
abbrev cX2_numberCycles : ByteArray := prog_4_method_11_code
def yX2_numberCycles : MethodName := ⟨RX2, "numberCycles", "()V"⟩
abbrev cX2_markCycle : ByteArray := prog_4_method_12_code
def yX2_markCycle : MethodName := ⟨RX2, "markCycle", "(II)V"⟩
abbrev cX2_howManyCycles : ByteArray := prog_4_method_13_code
def yX2_howManyCycles : MethodName := ⟨RX2, "howManyCycles", "()I"⟩
abbrev cX2_numberOfCycle : ByteArray := prog_4_method_14_code
def yX2_numberOfCycle : MethodName := ⟨RX2, "numberOfCycle", "(I)I"⟩
abbrev cX2_leastOfCycle : ByteArray := prog_4_method_15_code
def yX2_leastOfCycle : MethodName := ⟨RX2, "leastOfCycle", "(I)I"⟩
abbrev cX2_wordsOfCycle : ByteArray := prog_4_method_16_code
def yX2_wordsOfCycle : MethodName := ⟨RX2, "wordsOfCycle", "(I)I"⟩
abbrev cX2_makeExchange : ByteArray := prog_4_method_17_code
def yX2_makeExchange : MethodName := ⟨RX2, "makeExchange", "(II)I"⟩
abbrev cX2_takeBack : ByteArray := prog_4_method_18_code
def yX2_takeBack : MethodName := ⟨RX2, "takeBack", "()I"⟩
abbrev cX2_noteExchange : ByteArray := prog_4_method_19_code
def yX2_noteExchange : MethodName := ⟨RX2, "noteExchange", "(II)V"⟩
abbrev cX2_swapLeads : ByteArray := prog_4_method_20_code
def yX2_swapLeads : MethodName := ⟨RX2, "swapLeads", "(II)V"⟩
abbrev cX2_countBehindExchange : ByteArray := prog_4_method_21_code
def yX2_countBehindExchange : MethodName := ⟨RX2, "countBehindExchange", "(II)I"⟩
abbrev cX2_inOneCycle : ByteArray := prog_4_method_22_code
def yX2_inOneCycle : MethodName := ⟨RX2, "inOneCycle", "(II)Z"⟩
abbrev cX2_joinCycles : ByteArray := prog_4_method_23_code
def yX2_joinCycles : MethodName := ⟨RX2, "joinCycles", "()I"⟩
abbrev cX2_joinAt : ByteArray := prog_4_method_24_code
def yX2_joinAt : MethodName := ⟨RX2, "joinAt", "(II)Z"⟩
def RX3 : String := "WordWheel$RingCounter"
def TX3 : u_T := fun k => match k with
  | 0 => ("WordWheel$RingCounter", "words", "LWordWheel$Words;", true)
  | 1 => ("WordWheel$RingCounter", "row", "[I", true)
  | 2 => ("WordWheel$RingCounter", "pathways", "[I", true)
  | _ => ("WordWheel$RingCounter", "amounts", "[I", true)
def tyX3 : Nat → FieldType := fun k => match k with
  | 0 => .object "WordWheel$Words"
  | 1 => .array .int
  | 2 => .array .int
  | _ => .array .int
abbrev wsX30 : List Cond := u_ws RX3 TX3 4
theorem nmX3 : ∀ a, a < 4 → ∀ b, b < 4 → a ≠ b → (TX3 a).2.1 ≠ (TX3 b).2.1 := by decide +kernel
theorem tyX3_ok : ∀ k, k < 4 → parseFieldDescriptor (TX3 k).2.2.1 = some (tyX3 k) := by decide +kernel
abbrev cX3_init : ByteArray := prog_5_method_1_code
def yX3_init : MethodName := ⟨RX3, "<init>", "(LWordWheel$Words;)V"⟩
abbrev cX3_ringsUpTo : ByteArray := prog_5_method_2_code
def yX3_ringsUpTo : MethodName := ⟨RX3, "ringsUpTo", "(I)I"⟩
abbrev cX3_greatestRepeated : ByteArray := prog_5_method_3_code
def yX3_greatestRepeated : MethodName := ⟨RX3, "greatestRepeated", "(II)I"⟩
abbrev cX3_leastOfRing : ByteArray := prog_5_method_4_code
def yX3_leastOfRing : MethodName := ⟨RX3, "leastOfRing", "(I)I"⟩
abbrev cX3_wordsUpTo : ByteArray := prog_5_method_5_code
def yX3_wordsUpTo : MethodName := ⟨RX3, "wordsUpTo", "(II)I"⟩
abbrev cX3_lowerToBeginning : ByteArray := prog_5_method_6_code
def yX3_lowerToBeginning : MethodName := ⟨RX3, "lowerToBeginning", "(I)V"⟩
abbrev cX3_firstFault : ByteArray := prog_5_method_7_code
def yX3_firstFault : MethodName := ⟨RX3, "firstFault", "(I)I"⟩
abbrev cX3_wordsAboveRow : ByteArray := prog_5_method_8_code
def yX3_wordsAboveRow : MethodName := ⟨RX3, "wordsAboveRow", "(I)I"⟩
abbrev cX3_greaterThan : ByteArray := prog_5_method_9_code
def yX3_greaterThan : MethodName := ⟨RX3, "greaterThan", "(I)I"⟩
abbrev cX3_takeAmounts : ByteArray := prog_5_method_10_code
def yX3_takeAmounts : MethodName := ⟨RX3, "takeAmounts", "(IIIII)Z"⟩
abbrev cX3_ringsOfAmounts : ByteArray := prog_5_method_11_code
def yX3_ringsOfAmounts : MethodName := ⟨RX3, "ringsOfAmounts", "()I"⟩
abbrev cX3_allDivisible : ByteArray := prog_5_method_12_code
def yX3_allDivisible : MethodName := ⟨RX3, "allDivisible", "(I)Z"⟩
abbrev cX3_arrangements : ByteArray := prog_5_method_13_code
def yX3_arrangements : MethodName := ⟨RX3, "arrangements", "(I)J"⟩
def RX4 : String := "WordWheel$Round"
def TX4 : u_T := fun k => match k with
  | 0 => ("WordWheel$Round", "words", "LWordWheel$Words;", true)
  | 1 => ("WordWheel$Round", "letters", "[B", true)
  | 2 => ("WordWheel$Round", "places", "[I", true)
  | 3 => ("WordWheel$Round", "kind", "I", false)
  | 4 => ("WordWheel$Round", "row", "[I", true)
  | 5 => ("WordWheel$Round", "slipsOf", "[J", true)
  | 6 => ("WordWheel$Round", "standsAt", "[J", true)
  | _ => ("WordWheel$Round", "firstMatch", "I", false)
def tyX4 : Nat → FieldType := fun k => match k with
  | 0 => .object "WordWheel$Words"
  | 1 => .array .byte
  | 2 => .array .int
  | 3 => .int
  | 4 => .array .int
  | 5 => .array .long
  | 6 => .array .long
  | _ => .int
abbrev wsX40 : List Cond := u_ws RX4 TX4 8
theorem nmX4 : ∀ a, a < 8 → ∀ b, b < 8 → a ≠ b → (TX4 a).2.1 ≠ (TX4 b).2.1 := by decide +kernel
theorem tyX4_ok : ∀ k, k < 8 → parseFieldDescriptor (TX4 k).2.2.1 = some (tyX4 k) := by decide +kernel
abbrev cX4_init : ByteArray := prog_6_method_1_code
def yX4_init : MethodName := ⟨RX4, "<init>", "(LWordWheel$Words;)V"⟩
abbrev cX4_drop : ByteArray := prog_6_method_2_code
def yX4_drop : MethodName := ⟨RX4, "drop", "()V"⟩
abbrev cX4_isThere : ByteArray := prog_6_method_3_code
def yX4_isThere : MethodName := ⟨RX4, "isThere", "()Z"⟩
abbrev cX4_isPlace : ByteArray := prog_6_method_4_code
def yX4_isPlace : MethodName := ⟨RX4, "isPlace", "(I)Z"⟩
abbrev cX4_becomeLeast : ByteArray := prog_6_method_5_code
def yX4_becomeLeast : MethodName := ⟨RX4, "becomeLeast", "()V"⟩
abbrev cX4_nextRow : ByteArray := prog_6_method_6_code
def yX4_nextRow : MethodName := ⟨RX4, "nextRow", "(I)I"⟩
abbrev cX4_findPlaces : ByteArray := prog_6_method_7_code
def yX4_findPlaces : MethodName := ⟨RX4, "findPlaces", "()V"⟩
abbrev cX4_becomeGreedy : ByteArray := prog_6_method_8_code
def yX4_becomeGreedy : MethodName := ⟨RX4, "becomeGreedy", "()V"⟩
abbrev cX4_greatestNew : ByteArray := prog_6_method_9_code
def yX4_greatestNew : MethodName := ⟨RX4, "greatestNew", "(I)I"⟩
abbrev cX4_becomeCycle : ByteArray := prog_6_method_10_code
def yX4_becomeCycle : MethodName := ⟨RX4, "becomeCycle", "([I)V"⟩
abbrev cX4_writeLetters : ByteArray := prog_6_method_11_code
def yX4_writeLetters : MethodName := ⟨RX4, "writeLetters", "(II[II)V"⟩
abbrev cX4_countMatches : ByteArray := prog_6_method_12_code
def yX4_countMatches : MethodName := ⟨RX4, "countMatches", "([IIII)I"⟩
abbrev cX4_noteSlips : ByteArray := prog_6_method_13_code
def yX4_noteSlips : MethodName := ⟨RX4, "noteSlips", "([III)V"⟩
abbrev cX4_noteFirstPlaces : ByteArray := prog_6_method_14_code
def yX4_noteFirstPlaces : MethodName := ⟨RX4, "noteFirstPlaces", "(I)I"⟩
def RX5 : String := "WordWheel$Tape"
def TX5 : u_T := fun k => match k with
  | 0 => ("WordWheel$Tape", "words", "LWordWheel$Words;", true)
  | 1 => ("WordWheel$Tape", "items", "[I", true)
  | 2 => ("WordWheel$Tape", "form", "I", false)
  | 3 => ("WordWheel$Tape", "length", "I", false)
  | _ => ("WordWheel$Tape", "begun", "[I", true)
def tyX5 : Nat → FieldType := fun k => match k with
  | 0 => .object "WordWheel$Words"
  | 1 => .array .int
  | 2 => .int
  | 3 => .int
  | _ => .array .int
abbrev wsX50 : List Cond := u_ws RX5 TX5 5
theorem nmX5 : ∀ a, a < 5 → ∀ b, b < 5 → a ≠ b → (TX5 a).2.1 ≠ (TX5 b).2.1 := by decide +kernel
theorem tyX5_ok : ∀ k, k < 5 → parseFieldDescriptor (TX5 k).2.2.1 = some (tyX5 k) := by decide +kernel
abbrev cX5_init : ByteArray := prog_7_method_1_code
def yX5_init : MethodName := ⟨RX5, "<init>", "(LWordWheel$Words;)V"⟩
abbrev cX5_isLost : ByteArray := prog_7_method_2_code
def yX5_isLost : MethodName := ⟨RX5, "isLost", "()Z"⟩
abbrev cX5_begin : ByteArray := prog_7_method_3_code
def yX5_begin : MethodName := ⟨RX5, "begin", "(II)V"⟩
abbrev cX5_drop : ByteArray := prog_7_method_4_code
def yX5_drop : MethodName := ⟨RX5, "drop", "()I"⟩
abbrev cX5_hasItems : ByteArray := prog_7_method_5_code
def yX5_hasItems : MethodName := ⟨RX5, "hasItems", "(II)Z"⟩
abbrev cX5_fitted : ByteArray := prog_7_method_6_code
def yX5_fitted : MethodName := ⟨RX5, "fitted", "(I)I"⟩
abbrev cX5_hasBlanks : ByteArray := prog_7_method_7_code
def yX5_hasBlanks : MethodName := ⟨RX5, "hasBlanks", "()Z"⟩
abbrev cX5_firstRepeated : ByteArray := prog_7_method_8_code
def yX5_firstRepeated : MethodName := ⟨RX5, "firstRepeated", "()I"⟩
abbrev cX5_wordAt : ByteArray := prog_7_method_9_code
def yX5_wordAt : MethodName := ⟨RX5, "wordAt", "(I)I"⟩
def RX6 : String := "WordWheel$Words"
def TX6 : u_T := fun k => match k with
  | 0 => ("WordWheel$Words", "power", "[I", true)
  | 1 => ("WordWheel$Words", "letters", "I", false)
  | 2 => ("WordWheel$Words", "length", "I", false)
  | 3 => ("WordWheel$Words", "all", "I", false)
  | _ => ("WordWheel$Words", "high", "I", false)
def tyX6 : Nat → FieldType := fun k => match k with
  | 0 => .array .int
  | 1 => .int
  | 2 => .int
  | 3 => .int
  | _ => .int
abbrev wsX60 : List Cond := u_ws RX6 TX6 5
theorem nmX6 : ∀ a, a < 5 → ∀ b, b < 5 → a ≠ b → (TX6 a).2.1 ≠ (TX6 b).2.1 := by decide +kernel
theorem tyX6_ok : ∀ k, k < 5 → parseFieldDescriptor (TX6 k).2.2.1 = some (tyX6 k) := by decide +kernel
abbrev cX6_init : ByteArray := prog_8_method_1_code
def yX6_init : MethodName := ⟨RX6, "<init>", "()V"⟩
abbrev cX6_howMany : ByteArray := prog_8_method_2_code
def yX6_howMany : MethodName := ⟨RX6, "howMany", "(II)I"⟩
abbrev cX6_become : ByteArray := prog_8_method_3_code
def yX6_become : MethodName := ⟨RX6, "become", "(II)V"⟩
abbrev cX6_has : ByteArray := prog_8_method_4_code
def yX6_has : MethodName := ⟨RX6, "has", "(I)Z"⟩
abbrev cX6_isLetter : ByteArray := prog_8_method_5_code
def yX6_isLetter : MethodName := ⟨RX6, "isLetter", "(I)Z"⟩
abbrev cX6_differInFirst : ByteArray := prog_8_method_6_code
def yX6_differInFirst : MethodName := ⟨RX6, "differInFirst", "(II)Z"⟩
abbrev cX6_turned : ByteArray := prog_8_method_7_code
def yX6_turned : MethodName := ⟨RX6, "turned", "(II)I"⟩
abbrev cX6_turnedOnce : ByteArray := prog_8_method_8_code
def yX6_turnedOnce : MethodName := ⟨RX6, "turnedOnce", "(I)I"⟩
abbrev cX6_leastOf : ByteArray := prog_8_method_9_code
def yX6_leastOf : MethodName := ⟨RX6, "leastOf", "(I)I"⟩
abbrev cX6_stepsToLeast : ByteArray := prog_8_method_10_code
def yX6_stepsToLeast : MethodName := ⟨RX6, "stepsToLeast", "(I)I"⟩
abbrev cX6_ringSize : ByteArray := prog_8_method_11_code
def yX6_ringSize : MethodName := ⟨RX6, "ringSize", "(I)I"⟩
abbrev cX6_backward : ByteArray := prog_8_method_12_code
def yX6_backward : MethodName := ⟨RX6, "backward", "(I)I"⟩
def RX7 : String := "WordWheel"
def TX7 : u_T := fun k => match k with
  | 0 => ("WordWheel", "words", "LWordWheel$Words;", true)
  | 1 => ("WordWheel", "counter", "LWordWheel$RingCounter;", true)
  | 2 => ("WordWheel", "register", "LWordWheel$Register;", true)
  | 3 => ("WordWheel", "theRound", "LWordWheel$Round;", true)
  | 4 => ("WordWheel", "tapes", "[LWordWheel$Tape;", true)
  | 5 => ("WordWheel", "parting", "LWordWheel$Parting;", true)
  | 6 => ("WordWheel", "recurring", "LWordWheel$Recurring;", true)
  | 7 => ("WordWheel", "firstFound", "I", false)
  | _ => ("WordWheel", "latestFinding", "I", false)
def tyX7 : Nat → FieldType := fun k => match k with
  | 0 => .object "WordWheel$Words"
  | 1 => .object "WordWheel$RingCounter"
  | 2 => .object "WordWheel$Register"
  | 3 => .object "WordWheel$Round"
  | 4 => .array (.object "WordWheel$Tape")
  | 5 => .object "WordWheel$Parting"
  | 6 => .object "WordWheel$Recurring"
  | 7 => .int
  | _ => .int
abbrev wsX70 : List Cond := u_ws RX7 TX7 9
theorem nmX7 : ∀ a, a < 9 → ∀ b, b < 9 → a ≠ b → (TX7 a).2.1 ≠ (TX7 b).2.1 := by decide +kernel
theorem tyX7_ok : ∀ k, k < 9 → parseFieldDescriptor (TX7 k).2.2.1 = some (tyX7 k) := by decide +kernel
abbrev cX7_init : ByteArray := prog_1_method_1_code
def yX7_init : MethodName := ⟨RX7, "<init>", "()V"⟩
abbrev cX7_wheel : ByteArray := prog_1_method_2_code
def yX7_wheel : MethodName := ⟨RX7, "wheel", "(II)I"⟩
abbrev cX7_turn : ByteArray := prog_1_method_3_code
def yX7_turn : MethodName := ⟨RX7, "turn", "(II)I"⟩
abbrev cX7_least : ByteArray := prog_1_method_4_code
def yX7_least : MethodName := ⟨RX7, "least", "(I)I"⟩
abbrev cX7_steps : ByteArray := prog_1_method_5_code
def yX7_steps : MethodName := ⟨RX7, "steps", "(I)I"⟩
abbrev cX7_size : ByteArray := prog_1_method_6_code
def yX7_size : MethodName := ⟨RX7, "size", "(I)I"⟩
abbrev cX7_even : ByteArray := prog_1_method_7_code
def yX7_even : MethodName := ⟨RX7, "even", "(I)I"⟩
abbrev cX7_rings : ByteArray := prog_1_method_8_code
def yX7_rings : MethodName := ⟨RX7, "rings", "()I"⟩
abbrev cX7_ringOf : ByteArray := prog_1_method_9_code
def yX7_ringOf : MethodName := ⟨RX7, "ringOf", "(I)I"⟩
abbrev cX7_ring : ByteArray := prog_1_method_10_code
def yX7_ring : MethodName := ⟨RX7, "ring", "(I)I"⟩
abbrev cX7_below : ByteArray := prog_1_method_11_code
def yX7_below : MethodName := ⟨RX7, "below", "(I)I"⟩
abbrev cX7_content : ByteArray := prog_1_method_12_code
def yX7_content : MethodName := ⟨RX7, "content", "(IIIII)I"⟩
abbrev cX7_factor : ByteArray := prog_1_method_13_code
def yX7_factor : MethodName := ⟨RX7, "factor", "(II)I"⟩
abbrev cX7_sum : ByteArray := prog_1_method_14_code
def yX7_sum : MethodName := ⟨RX7, "sum", "(I)I"⟩
abbrev cX7_go : ByteArray := prog_1_method_15_code
def yX7_go : MethodName := ⟨RX7, "go", "(I)I"⟩
abbrev cX7_right : ByteArray := prog_1_method_16_code
def yX7_right : MethodName := ⟨RX7, "right", "()I"⟩
abbrev cX7_exchange : ByteArray := prog_1_method_17_code
def yX7_exchange : MethodName := ⟨RX7, "exchange", "(II)I"⟩
abbrev cX7_back : ByteArray := prog_1_method_18_code
def yX7_back : MethodName := ⟨RX7, "back", "()I"⟩
abbrev cX7_cycles : ByteArray := prog_1_method_19_code
def yX7_cycles : MethodName := ⟨RX7, "cycles", "()I"⟩
abbrev cX7_cycleOf : ByteArray := prog_1_method_20_code
def yX7_cycleOf : MethodName := ⟨RX7, "cycleOf", "(I)I"⟩
abbrev cX7_cycle : ByteArray := prog_1_method_21_code
def yX7_cycle : MethodName := ⟨RX7, "cycle", "(II)I"⟩
abbrev cX7_join : ByteArray := prog_1_method_22_code
def yX7_join : MethodName := ⟨RX7, "join", "()I"⟩
abbrev cX7_round : ByteArray := prog_1_method_23_code
def yX7_round : MethodName := ⟨RX7, "round", "(I)I"⟩
abbrev cX7_letter : ByteArray := prog_1_method_24_code
def yX7_letter : MethodName := ⟨RX7, "letter", "(I)I"⟩
abbrev cX7_place : ByteArray := prog_1_method_25_code
def yX7_place : MethodName := ⟨RX7, "place", "(I)I"⟩
abbrev cX7_way : ByteArray := prog_1_method_26_code
def yX7_way : MethodName := ⟨RX7, "way", "(II)I"⟩
abbrev cX7_tape : ByteArray := prog_1_method_27_code
def yX7_tape : MethodName := ⟨RX7, "tape", "(III)I"⟩
abbrev cX7_lose : ByteArray := prog_1_method_28_code
def yX7_lose : MethodName := ⟨RX7, "lose", "(I)I"⟩
abbrev cX7_put : ByteArray := prog_1_method_29_code
def yX7_put : MethodName := ⟨RX7, "put", "(IIII)I"⟩
abbrev cX7_get : ByteArray := prog_1_method_30_code
def yX7_get : MethodName := ⟨RX7, "get", "(III)I"⟩
abbrev cX7_copy : ByteArray := prog_1_method_31_code
def yX7_copy : MethodName := ⟨RX7, "copy", "(IIIII)I"⟩
abbrev cX7_print : ByteArray := prog_1_method_32_code
def yX7_print : MethodName := ⟨RX7, "print", "(IIII)I"⟩
abbrev cX7_find : ByteArray := prog_1_method_33_code
def yX7_find : MethodName := ⟨RX7, "find", "(IIII)I"⟩
abbrev cX7_found : ByteArray := prog_1_method_34_code
def yX7_found : MethodName := ⟨RX7, "found", "()I"⟩
abbrev cX7_twice : ByteArray := prog_1_method_35_code
def yX7_twice : MethodName := ⟨RX7, "twice", "(I)I"⟩
abbrev cX7_parts : ByteArray := prog_1_method_36_code
def yX7_parts : MethodName := ⟨RX7, "parts", "(I)I"⟩
abbrev cX7_part : ByteArray := prog_1_method_37_code
def yX7_part : MethodName := ⟨RX7, "part", "(I)I"⟩
abbrev cX7_recurrence : ByteArray := prog_1_method_38_code
def yX7_recurrence : MethodName := ⟨RX7, "recurrence", "(I)I"⟩
abbrev cX7_coefficient : ByteArray := prog_1_method_39_code
def yX7_coefficient : MethodName := ⟨RX7, "coefficient", "(I)I"⟩
abbrev cX7_count : ByteArray := prog_1_method_40_code
def yX7_count : MethodName := ⟨RX7, "count", "(I)I"⟩
abbrev cX7_digest : ByteArray := prog_1_method_41_code
def yX7_digest : MethodName := ⟨RX7, "digest", "()J"⟩
abbrev cX7_isTape : ByteArray := prog_1_method_42_code
def yX7_isTape : MethodName := ⟨RX7, "isTape", "(I)Z"⟩
abbrev cX7_isForm : ByteArray := prog_1_method_43_code
def yX7_isForm : MethodName := ⟨RX7, "isForm", "(I)Z"⟩
abbrev cX7_finding : ByteArray := prog_1_method_44_code
def yX7_finding : MethodName := ⟨RX7, "finding", "(I)I"⟩
abbrev cX7_faultOfItem : ByteArray := prog_1_method_45_code
def yX7_faultOfItem : MethodName := ⟨RX7, "faultOfItem", "(LWordWheel$Tape;II)I"⟩
def RX8 : String := "WordWheelModel"
def TX8 : u_T := fun k => match k with
  | 0 => ("WordWheelModel", "k", "I", false)
  | 1 => ("WordWheelModel", "n", "I", false)
  | 2 => ("WordWheelModel", "all", "I", false)
  | 3 => ("WordWheelModel", "leasts", "[I", true)
  | 4 => ("WordWheelModel", "wanted", "[I", true)
  | 5 => ("WordWheelModel", "had", "[I", true)
  | 6 => ("WordWheelModel", "factors", "[I", true)
  | 7 => ("WordWheelModel", "sum", "I", false)
  | 8 => ("WordWheelModel", "to", "[I", true)
  | 9 => ("WordWheelModel", "exchanges", "I", false)
  | 10 => ("WordWheelModel", "one", "[I", true)
  | 11 => ("WordWheelModel", "other", "[I", true)
  | 12 => ("WordWheelModel", "seen", "[Z", true)
  | 13 => ("WordWheelModel", "number", "[I", true)
  | 14 => ("WordWheelModel", "cycleMany", "I", false)
  | 15 => ("WordWheelModel", "group", "[I", true)
  | 16 => ("WordWheelModel", "which", "I", false)
  | 17 => ("WordWheelModel", "round", "[I", true)
  | 18 => ("WordWheelModel", "placeOf", "[I", true)
  | 19 => ("WordWheelModel", "forms", "[I", true)
  | 20 => ("WordWheelModel", "sizes", "[I", true)
  | 21 => ("WordWheelModel", "items", "[I", true)
  | 22 => ("WordWheelModel", "moved", "[I", true)
  | 23 => ("WordWheelModel", "latest", "I", false)
  | 24 => ("WordWheelModel", "firstFound", "I", false)
  | 25 => ("WordWheelModel", "partMany", "I", false)
  | 26 => ("WordWheelModel", "partAt", "[I", true)
  | 27 => ("WordWheelModel", "length", "I", false)
  | 28 => ("WordWheelModel", "told", "[I", true)
  | 29 => ("WordWheelModel", "now", "[I", true)
  | 30 => ("WordWheelModel", "before", "[I", true)
  | 31 => ("WordWheelModel", "kept", "[I", true)
  | _ => ("WordWheelModel", "matrix", "[I", true)
def tyX8 : Nat → FieldType := fun k => match k with
  | 0 => .int
  | 1 => .int
  | 2 => .int
  | 3 => .array .int
  | 4 => .array .int
  | 5 => .array .int
  | 6 => .array .int
  | 7 => .int
  | 8 => .array .int
  | 9 => .int
  | 10 => .array .int
  | 11 => .array .int
  | 12 => .array .boolean
  | 13 => .array .int
  | 14 => .int
  | 15 => .array .int
  | 16 => .int
  | 17 => .array .int
  | 18 => .array .int
  | 19 => .array .int
  | 20 => .array .int
  | 21 => .array .int
  | 22 => .array .int
  | 23 => .int
  | 24 => .int
  | 25 => .int
  | 26 => .array .int
  | 27 => .int
  | 28 => .array .int
  | 29 => .array .int
  | 30 => .array .int
  | 31 => .array .int
  | _ => .array .int
abbrev wsX80 : List Cond := u_ws RX8 TX8 33
theorem nmX8 : ∀ a, a < 33 → ∀ b, b < 33 → a ≠ b → (TX8 a).2.1 ≠ (TX8 b).2.1 := by decide +kernel
theorem tyX8_ok : ∀ k, k < 33 → parseFieldDescriptor (TX8 k).2.2.1 = some (tyX8 k) := by decide +kernel
abbrev cX8_init : ByteArray := prog_10_method_1_code
def yX8_init : MethodName := ⟨RX8, "<init>", "()V"⟩
abbrev cX8_in : ByteArray := prog_10_method_3_code
def yX8_in : MethodName := ⟨RX8, "in", "(JJJ)Z"⟩
abbrev cX8_wheel : ByteArray := prog_10_method_4_code
def yX8_wheel : MethodName := ⟨RX8, "wheel", "(II)I"⟩
abbrev cX8_isWord : ByteArray := prog_10_method_5_code
def yX8_isWord : MethodName := ⟨RX8, "isWord", "(I)Z"⟩
abbrev cX8_next : ByteArray := prog_10_method_6_code
def yX8_next : MethodName := ⟨RX8, "next", "(I)I"⟩
abbrev cX8_leastOf : ByteArray := prog_10_method_7_code
def yX8_leastOf : MethodName := ⟨RX8, "leastOf", "(I)I"⟩
abbrev cX8_turn : ByteArray := prog_10_method_8_code
def yX8_turn : MethodName := ⟨RX8, "turn", "(II)I"⟩
abbrev cX8_least : ByteArray := prog_10_method_9_code
def yX8_least : MethodName := ⟨RX8, "least", "(I)I"⟩
abbrev cX8_steps : ByteArray := prog_10_method_10_code
def yX8_steps : MethodName := ⟨RX8, "steps", "(I)I"⟩
abbrev cX8_sizeOf : ByteArray := prog_10_method_11_code
def yX8_sizeOf : MethodName := ⟨RX8, "sizeOf", "(I)I"⟩
abbrev cX8_size : ByteArray := prog_10_method_12_code
def yX8_size : MethodName := ⟨RX8, "size", "(I)I"⟩
abbrev cX8_even : ByteArray := prog_10_method_13_code
def yX8_even : MethodName := ⟨RX8, "even", "(I)I"⟩
abbrev cX8_rings : ByteArray := prog_10_method_14_code
def yX8_rings : MethodName := ⟨RX8, "rings", "()I"⟩
abbrev cX8_ringOf : ByteArray := prog_10_method_15_code
def yX8_ringOf : MethodName := ⟨RX8, "ringOf", "(I)I"⟩
abbrev cX8_ring : ByteArray := prog_10_method_16_code
def yX8_ring : MethodName := ⟨RX8, "ring", "(I)I"⟩
abbrev cX8_below : ByteArray := prog_10_method_17_code
def yX8_below : MethodName := ⟨RX8, "below", "(I)I"⟩
abbrev cX8_content : ByteArray := prog_10_method_18_code
def yX8_content : MethodName := ⟨RX8, "content", "(IIIII)I"⟩
abbrev cX8_hasWanted : ByteArray := prog_10_method_19_code
def yX8_hasWanted : MethodName := ⟨RX8, "hasWanted", "(I)Z"⟩
abbrev cX8_lead : ByteArray := prog_10_method_20_code
def yX8_lead : MethodName := ⟨RX8, "lead", "()V"⟩
abbrev cX8_factor : ByteArray := prog_10_method_21_code
def yX8_factor : MethodName := ⟨RX8, "factor", "(II)I"⟩
abbrev cX8_sum : ByteArray := prog_10_method_22_code
def yX8_sum : MethodName := ⟨RX8, "sum", "(I)I"⟩
abbrev cX8_go : ByteArray := prog_10_method_23_code
def yX8_go : MethodName := ⟨RX8, "go", "(I)I"⟩
abbrev cX8_isRight : ByteArray := prog_10_method_24_code
def yX8_isRight : MethodName := ⟨RX8, "isRight", "()Z"⟩
abbrev cX8_right : ByteArray := prog_10_method_25_code
def yX8_right : MethodName := ⟨RX8, "right", "()I"⟩
abbrev cX8_findCycles : ByteArray := prog_10_method_26_code
def yX8_findCycles : MethodName := ⟨RX8, "findCycles", "()V"⟩
abbrev cX8_swap : ByteArray := prog_10_method_27_code
def yX8_swap : MethodName := ⟨RX8, "swap", "(II)V"⟩
abbrev cX8_exchange : ByteArray := prog_10_method_28_code
def yX8_exchange : MethodName := ⟨RX8, "exchange", "(II)I"⟩
abbrev cX8_back : ByteArray := prog_10_method_29_code
def yX8_back : MethodName := ⟨RX8, "back", "()I"⟩
abbrev cX8_cycles : ByteArray := prog_10_method_30_code
def yX8_cycles : MethodName := ⟨RX8, "cycles", "()I"⟩
abbrev cX8_cycleOf : ByteArray := prog_10_method_31_code
def yX8_cycleOf : MethodName := ⟨RX8, "cycleOf", "(I)I"⟩
abbrev cX8_cycle : ByteArray := prog_10_method_32_code
def yX8_cycle : MethodName := ⟨RX8, "cycle", "(II)I"⟩
abbrev cX8_groupOf : ByteArray := prog_10_method_33_code
def yX8_groupOf : MethodName := ⟨RX8, "groupOf", "(I)I"⟩
abbrev cX8_joins : ByteArray := prog_10_method_34_code
def yX8_joins : MethodName := ⟨RX8, "joins", "(Z)I"⟩
abbrev cX8_join : ByteArray := prog_10_method_35_code
def yX8_join : MethodName := ⟨RX8, "join", "()I"⟩
abbrev cX8_leastRound : ByteArray := prog_10_method_36_code
def yX8_leastRound : MethodName := ⟨RX8, "leastRound", "()V"⟩
abbrev cX8_greedyRound : ByteArray := prog_10_method_37_code
def yX8_greedyRound : MethodName := ⟨RX8, "greedyRound", "()V"⟩
abbrev cX8_round : ByteArray := prog_10_method_38_code
def yX8_round : MethodName := ⟨RX8, "round", "(I)I"⟩
abbrev cX8_letter : ByteArray := prog_10_method_39_code
def yX8_letter : MethodName := ⟨RX8, "letter", "(I)I"⟩
abbrev cX8_place : ByteArray := prog_10_method_40_code
def yX8_place : MethodName := ⟨RX8, "place", "(I)I"⟩
abbrev cX8_way : ByteArray := prog_10_method_41_code
def yX8_way : MethodName := ⟨RX8, "way", "(II)I"⟩
abbrev cX8_met : ByteArray := prog_10_method_42_code
def yX8_met : MethodName := ⟨RX8, "met", "(I)I"⟩
abbrev cX8_isTape : ByteArray := prog_10_method_43_code
def yX8_isTape : MethodName := ⟨RX8, "isTape", "(I)Z"⟩
abbrev cX8_tape : ByteArray := prog_10_method_44_code
def yX8_tape : MethodName := ⟨RX8, "tape", "(III)I"⟩
abbrev cX8_lose : ByteArray := prog_10_method_45_code
def yX8_lose : MethodName := ⟨RX8, "lose", "(I)I"⟩
abbrev cX8_lacks : ByteArray := prog_10_method_46_code
def yX8_lacks : MethodName := ⟨RX8, "lacks", "(III)I"⟩
abbrev cX8_put : ByteArray := prog_10_method_47_code
def yX8_put : MethodName := ⟨RX8, "put", "(IIII)I"⟩
abbrev cX8_get : ByteArray := prog_10_method_48_code
def yX8_get : MethodName := ⟨RX8, "get", "(III)I"⟩
abbrev cX8_isWithin : ByteArray := prog_10_method_49_code
def yX8_isWithin : MethodName := ⟨RX8, "isWithin", "(III)Z"⟩
abbrev cX8_copy : ByteArray := prog_10_method_50_code
def yX8_copy : MethodName := ⟨RX8, "copy", "(IIIII)I"⟩
abbrev cX8_print : ByteArray := prog_10_method_51_code
def yX8_print : MethodName := ⟨RX8, "print", "(IIII)I"⟩
abbrev cX8_find : ByteArray := prog_10_method_52_code
def yX8_find : MethodName := ⟨RX8, "find", "(IIII)I"⟩
abbrev cX8_found : ByteArray := prog_10_method_53_code
def yX8_found : MethodName := ⟨RX8, "found", "()I"⟩
abbrev cX8_noLetters : ByteArray := prog_10_method_54_code
def yX8_noLetters : MethodName := ⟨RX8, "noLetters", "(I)I"⟩
abbrev cX8_twice : ByteArray := prog_10_method_55_code
def yX8_twice : MethodName := ⟨RX8, "twice", "(I)I"⟩
abbrev cX8_parts : ByteArray := prog_10_method_56_code
def yX8_parts : MethodName := ⟨RX8, "parts", "(I)I"⟩
abbrev cX8_part : ByteArray := prog_10_method_57_code
def yX8_part : MethodName := ⟨RX8, "part", "(I)I"⟩
abbrev cX8_inverse : ByteArray := prog_10_method_58_code
def yX8_inverse : MethodName := ⟨RX8, "inverse", "(I)I"⟩
abbrev cX8_leastLength : ByteArray := prog_10_method_59_code
def yX8_leastLength : MethodName := ⟨RX8, "leastLength", "(I)I"⟩
abbrev cX8_solve : ByteArray := prog_10_method_60_code
def yX8_solve : MethodName := ⟨RX8, "solve", "(II)V"⟩
abbrev cX8_recurrence : ByteArray := prog_10_method_61_code
def yX8_recurrence : MethodName := ⟨RX8, "recurrence", "(I)I"⟩
abbrev cX8_coefficient : ByteArray := prog_10_method_62_code
def yX8_coefficient : MethodName := ⟨RX8, "coefficient", "(I)I"⟩
abbrev cX8_count : ByteArray := prog_10_method_63_code
def yX8_count : MethodName := ⟨RX8, "count", "(I)I"⟩
abbrev cX8_digest : ByteArray := prog_10_method_64_code
def yX8_digest : MethodName := ⟨RX8, "digest", "()J"⟩
def RJ13 : String := "java/lang/Long"
abbrev cJ13_bitCount_95d88 : ByteArray := prog_11_method_50_code
def yJ13_bitCount_95d88 : MethodName := ⟨RJ13, "bitCount", "(J)I"⟩
def RJ9 : String := "java/lang/Math"
abbrev cJ9_min_7cf53 : ByteArray := prog_12_method_69_code
def yJ9_min_7cf53 : MethodName := ⟨RJ9, "min", "(II)I"⟩
def RJ10 : String := "java/lang/System"
def RJ7 : String := "java/util/Arrays"
abbrev cJ7_rangeCheck_23922 : ByteArray := prog_14_method_30_code
def yJ7_rangeCheck_23922 : MethodName := ⟨RJ7, "rangeCheck", "(III)V"⟩
abbrev cJ7_fill_d0a16 : ByteArray := prog_14_method_101_code
def yJ7_fill_d0a16 : MethodName := ⟨RJ7, "fill", "([JJ)V"⟩
abbrev cJ7_fill_53178 : ByteArray := prog_14_method_103_code
def yJ7_fill_53178 : MethodName := ⟨RJ7, "fill", "([II)V"⟩
abbrev cJ7_fill_fda19 : ByteArray := prog_14_method_104_code
def yJ7_fill_fda19 : MethodName := ⟨RJ7, "fill", "([IIII)V"⟩
abbrev cJ7_fill_eb02e : ByteArray := prog_14_method_110_code
def yJ7_fill_eb02e : MethodName := ⟨RJ7, "fill", "([BIIB)V"⟩
def RL : String := "WordWheelLaw"
abbrev cL_law : ByteArray := code
def yL_law : MethodName := ⟨RL, "law", "([I)Z"⟩
abbrev vwCl : List vw_C := [(RX0, TX0, 2), (RX1, TX1, 5), (RX2, TX2, 14), (RX3, TX3, 4), (RX4, TX4, 8), (RX5, TX5, 5), (RX6, TX6, 5), (RX7, TX7, 9), (RX8, TX8, 33)]
end
section
/-! the words that every method of ours is given: all of the tables' that go through a call; nest mates' links apart -/
def gw : List Cond := lw_tbl.filter goodWord
def is_N : Cond → Bool
  | .fieldLinkNest .. => true
  | .methodLinkNest .. => true
  | _ => false
def nw : List Cond := lw_tbl.filter is_N
theorem gw_in {w : Cond} (h : w ∈ lw_tbl) (hg : goodWord w = true) : w ∈ gw := List.mem_filter.mpr ⟨h, hg⟩
theorem nw_in {w : Cond} (h : w ∈ lw_tbl) (hg : is_N w = true) : w ∈ nw := List.mem_filter.mpr ⟨h, hg⟩
theorem gw_good {w : Cond} (h : w ∈ gw) : (w.onTables && w.keeps) = true ∨ ∃ ty, w = .arrayClass ty := good_of_word (List.mem_filter.mp h).2
theorem nw_warm {w : Cond} (h : w ∈ nw) {s U : State} (hW : s.WarmedH U.vm) (hZ : va_Nw w s) : va_Nw w U := by
  have h2 := (List.mem_filter.mp h).2
  cases w <;> first | exact va_Nw.warmF hW hZ | exact va_Nw.warmM hW hZ | (simp [is_N] at h2)
theorem nw_tab {w : Cond} (h : w ∈ nw) : w.onTables = true := by
  have h2 := (List.mem_filter.mp h).2
  cases w <;> first | rfl | (simp [is_N] at h2)
theorem in_X0 : ∀ w ∈ wsX00, w ∈ lw_tbl := by decide +kernel
theorem in_X1 : ∀ w ∈ wsX10, w ∈ lw_tbl := by decide +kernel
theorem in_X2 : ∀ w ∈ wsX20, w ∈ lw_tbl := by decide +kernel
theorem in_X3 : ∀ w ∈ wsX30, w ∈ lw_tbl := by decide +kernel
theorem in_X4 : ∀ w ∈ wsX40, w ∈ lw_tbl := by decide +kernel
theorem in_X5 : ∀ w ∈ wsX50, w ∈ lw_tbl := by decide +kernel
theorem in_X6 : ∀ w ∈ wsX60, w ∈ lw_tbl := by decide +kernel
theorem in_X7 : ∀ w ∈ wsX70, w ∈ lw_tbl := by decide +kernel
theorem in_X8 : ∀ w ∈ wsX80, w ∈ lw_tbl := by decide +kernel
theorem lay_good (C : String) (T : u_T) (k : Nat) : goodWord (u_lay C T k) = true := by
  unfold u_lay
  split <;> rfl
theorem ws_good {C : String} {T : u_T} {N : Nat} {w : Cond} (h : w ∈ u_ws C T N) : goodWord w = true := by
  obtain ⟨k, -, rfl⟩ := List.mem_map.mp h
  exact lay_good C T k
theorem gw_cls {ci : Nat} {r : vw_C} (h : vwCl[ci]? = some r) : ∀ w ∈ u_ws r.1 r.2.1 r.2.2, w ∈ gw := by
  intro w hw
  refine gw_in ?_ (ws_good hw)
  match ci, h with
  | 0, h => cases h; exact in_X0 w hw
  | 1, h => cases h; exact in_X1 w hw
  | 2, h => cases h; exact in_X2 w hw
  | 3, h => cases h; exact in_X3 w hw
  | 4, h => cases h; exact in_X4 w hw
  | 5, h => cases h; exact in_X5 w hw
  | 6, h => cases h; exact in_X6 w hw
  | 7, h => cases h; exact in_X7 w hw
  | 8, h => cases h; exact in_X8 w hw
  | k + 9, h => simp [vwCl] at h
/-- the field types, by class -/
def cl_ty (ci : Nat) : Nat → FieldType := match ci with
  | 0 => tyX0
  | 1 => tyX1
  | 2 => tyX2
  | 3 => tyX3
  | 4 => tyX4
  | 5 => tyX5
  | 6 => tyX6
  | 7 => tyX7
  | _ => tyX8
theorem cl_tyok {ci : Nat} {r : vw_C} (h : vwCl[ci]? = some r) : ∀ k, k < r.2.2 → parseFieldDescriptor (r.2.1 k).2.2.1 = some (cl_ty ci k) := by
  match ci, h with
  | 0, h => cases h; exact tyX0_ok
  | 1, h => cases h; exact tyX1_ok
  | 2, h => cases h; exact tyX2_ok
  | 3, h => cases h; exact tyX3_ok
  | 4, h => cases h; exact tyX4_ok
  | 5, h => cases h; exact tyX5_ok
  | 6, h => cases h; exact tyX6_ok
  | 7, h => cases h; exact tyX7_ok
  | 8, h => cases h; exact tyX8_ok
  | k + 9, h => simp [vwCl] at h
theorem cl_nm {ci : Nat} {r : vw_C} (h : vwCl[ci]? = some r) : ∀ a, a < r.2.2 → ∀ b, b < r.2.2 → a ≠ b → (r.2.1 a).2.1 ≠ (r.2.1 b).2.1 := by
  match ci, h with
  | 0, h => cases h; exact nmX0
  | 1, h => cases h; exact nmX1
  | 2, h => cases h; exact nmX2
  | 3, h => cases h; exact nmX3
  | 4, h => cases h; exact nmX4
  | 5, h => cases h; exact nmX5
  | 6, h => cases h; exact nmX6
  | 7, h => cases h; exact nmX7
  | 8, h => cases h; exact nmX8
  | k + 9, h => simp [vwCl] at h
end
section
/-! OUR OWN JUDGEMENT over the kit's: cells have numbers (2, 3 .. in the order in which they are made; 0 is the script, 1 the table TOTIENT), a heap is a function from numbers to cells (of 0: how many there are) -/
abbrev ce : Type := Nat × (List Value ⊕ (Nat × ((Nat → Int32) ⊕ (Nat → Int64) ⊕ (Nat → Option Nat))))
abbrev ah : Type := Nat → ce
abbrev gx : Type := Launch × (Nat × Nat × Nat) × va_G × (Nat → ClassId) × Nat × (Nat → Int32)
def g_l (G : gx) : Launch := G.1
def g_s (G : gx) : Nat := G.2.1.1
def g_t (G : gx) : Nat := G.2.1.2.1
def g_b (G : gx) : Nat := G.2.1.2.2
def g_D (G : gx) : va_G := G.2.2.1
def g_T (G : gx) : Nat → ClassId := G.2.2.2.1
def g_n (G : gx) : Nat := G.2.2.2.2.1
def g_x (G : gx) : Nat → Int32 := G.2.2.2.2.2
def g_A (G : gx) : Nat → Prop := fun q => g_b G ≤ q
def ad (G : gx) (k : Nat) : Nat := match k with
  | 0 => g_s G
  | 1 => g_t G
  | k + 2 => g_b G + k
def cv (G : gx) (v : Value) : Value := match v with
  | .ref k => .ref (ad G k)
  | v => v
def cx (G : gx) (e : ce) : va_E := match e with
  | (ci, .inl fs) => .inr (ci, fs.map (cv G))
  | (t, .inr (n, .inl f)) => .inl (g_T G t, n, .inl f)
  | (t, .inr (n, .inr (.inl f))) => .inl (g_T G t, n, .inr (.inl f))
  | (t, .inr (n, .inr (.inr f))) => .inl (g_T G t, n, .inr (.inr (.inr (.inr (fun j => (f j).map (ad G))))))
def wl (G : gx) (h : ah) : va_W := (List.range (h 0).1).map (fun k => (g_b G + k, cx G (h (k + 2))))
def Hp (G : gx) (h : ah) (H : Heap) : Prop := va_P (g_D G) vwCl (wl G h) H ∧ (∀ k, (h (k + 2)).1 < 100 → k < (h 0).1) ∧ H.size = g_b G + (h 0).1
def g_ty (G : gx) : List (ClassId × FieldType) := [(g_T G 0, .int), (g_T G 1, .byte), (g_T G 2, .boolean), (g_T G 3, .long), (g_T G 4, .object "WordWheel$Tape")]
def Kt (G : gx) (U : State) : Prop := va_K (g_D G) vwCl (g_ty G) U ∧ ∀ w ∈ nw, va_Nw w U
def totL : List Int32 := [0, 1, 1, 2, 2, 4, 2, 6, 4, 6, 4, 10, 4, 12, 6]
def totF (j : Nat) : Int32 := totL.getD j 0
def Ro (G : gx) (U : State) (H : Heap) : Prop := va_X (g_s G) (g_n G) (g_x G) U H ∧ va_X (g_t G) 15 totF U H ∧ va_Z RX3 "TOTIENT" "[I" (.ref (g_t G)) (g_A G) U H ∧ g_s G < g_b G ∧ g_t G < g_b G
def PU (G : gx) (h : ah) (U : State) : Prop := Hp G h U.heap ∧ Kt G U ∧ Ro G U U.heap
abbrev my : Type := MethodName × ByteArray × Nat × Option FieldType
def w_s (y : my) : List Cond := .code y.1 y.2.1 y.2.2.1 y.2.2.2 :: gw
def r_lo (d : Nat) : Nat := if d = 9 then 328 else 33 * d
def r_m (d mc ms : Nat) : Room := { frames := d, cells := mc, slots := ms, locals := r_lo d }
def Qm (G : gx) (Q : Option Value → ah → Prop) : Array Value → State → Outcome → State → Prop := fun _ st o t => (∃ (r : Option Value) (h : ah), o = .returned (r.map (cv G)) ∧ Q r h ∧ Hp G h t.heap) ∧ va_F (g_A G) st t
/-- a method's contract: from the heap h with the arguments a it comes to Q -/
def Ct (G : gx) (y : my) (d mc ms : Nat) (a : List Value) (h : ah) (Q : Option Value → ah → Prop) : Prop :=
  Met (g_l G) y.1 (w_s y) (r_m d mc ms) (va_Pc (a.map (cv G)) (PU G h)) (Qm G Q) mc ms (g_A G)
def Cx (G : gx) (y : my) (p : Program) (s : State) (m : MethodId) (args : Array Value) (meth : Method) (c : Code) : Prop :=
  p.tables.exec = Jvm.exec ∧ c.code = y.2.1 ∧ meth.sig.returnType = y.2.2.2 ∧ c.maxLocals = y.2.2.1 ∧ s.vm.findClass y.1.cls = some m.cls ∧ (∀ w ∈ w_s y, w.before args s = true) ∧ meth.locks = false ∧ meth.name = y.1.name ∧ Kt G s ∧ Ro G s s.heap ∧ g_b G ≤ s.heap.size
/-- the locals, by their places -/
def lq (G : gx) : Nat → List (Option Value) → List (Nat × Value)
  | _, [] => []
  | i, none :: r => lq G (i + 1) r
  | i, some v :: r => (i, cv G v) :: lq G (i + 1) r
def ki (o : Option Value) : Option Value := match o with
  | some (.long _) => none
  | some (.double _) => none
  | o => o
def st1 : Nat → Value → List (Option Value) → List (Option Value)
  | 0, v, L => some v :: L.tail
  | i + 1, v, [] => none :: st1 i v []
  | 1, v, o :: r => ki o :: st1 0 v r
  | i + 2, v, o :: r => o :: st1 (i + 1) v r
def st2 : Nat → Value → List (Option Value) → List (Option Value)
  | 0, v, L => some v :: none :: L.tail.tail
  | i + 1, v, [] => none :: st2 i v []
  | 1, v, o :: r => ki o :: st2 0 v r
  | i + 2, v, o :: r => o :: st2 (i + 1) v r
abbrev bg : Type := Nat × Nat × Nat × Nat × Nat
/-- from place pc of the method y with locals L, stack S, heap h: it comes to an end with Q. b: depth, cells and slots in all, cells and slots made so far -/
def V (G : gx) (y : my) (b : bg) (pc : Nat) (L : List (Option Value)) (S : List Value) (h : ah) (Q : Option Value → ah → Prop) : Prop :=
  ∀ (p : Program) (e : Env) (s : State) (m : MethodId) (args : Array Value) (below : List Frame) (meth : Method) (c : Code) (H : Heap) (locs : List Loc) (ls : Array Slot),
    Cx G y p s m args meth c → b.2.2.2.1 ≤ b.2.1 → b.2.2.2.2 ≤ b.2.2.1 → Hp G h H → va_S (g_A G) s.heap H locs → lv_has ls y.2.2.1 (lq G 0 L) →
    W p (g_l G) e (r_m b.1 b.2.1 b.2.2.1) s m args below meth c H locs b.2.2.2.1 b.2.2.2.2 (MQ below (Qm G Q) args s b.2.1 b.2.2.1 (g_A G)) (F0 m pc ls (S.map (cv G)))
theorem cv_cat (G : gx) (v : Value) : (cv G v).category = v.category := by cases v <;> rfl
theorem lq_get (G : gx) : ∀ (L : List (Option Value)) (j i : Nat) (v : Value), L[i]? = some (some v) → (j + i, cv G v) ∈ lq G j L
  | [], _, _, _, h => by simp at h
  | none :: r, j, 0, v, h => by simp at h
  | none :: r, j, i + 1, v, h => by
    have := lq_get G r (j + 1) i v (by simpa using h)
    rw [show j + (i + 1) = j + 1 + i by omega]
    exact this
  | some w :: r, j, 0, v, h => by
    have : w = v := by simpa using h
    subst this
    exact List.mem_cons_self
  | some w :: r, j, i + 1, v, h => by
    have := lq_get G r (j + 1) i v (by simpa using h)
    rw [show j + (i + 1) = j + 1 + i by omega]
    exact List.mem_cons_of_mem _ this
theorem lq_ge (G : gx) : ∀ (L : List (Option Value)) (j : Nat) (q : Nat × Value), q ∈ lq G j L → j ≤ q.1
  | [], _, _, h => by simp [lq] at h
  | none :: r, j, q, h => by
    have := lq_ge G r (j + 1) q (by simpa [lq] using h)
    omega
  | some w :: r, j, q, h => by
    rcases List.mem_cons.mp (show q ∈ (j, cv G w) :: lq G (j + 1) r from h) with rfl | h
    · exact Nat.le_refl _
    · have := lq_ge G r (j + 1) q h
      omega
theorem lq_tail (G : gx) {L : List (Option Value)} {j : Nat} {q : Nat × Value} (h : q ∈ lq G (j + 1) L.tail) : q ∈ lq G j L := by
  match L with
  | [] => simp [lq] at h
  | none :: r => exact h
  | some w :: r => exact List.mem_cons_of_mem _ h
theorem ki_cat {o : Option Value} {v : Value} (h : ki o = some v) : o = some v ∧ v.category = 1 := by
  match o with
  | none => simp [ki] at h
  | some w => cases w <;> simp [ki] at h <;> subst h <;> exact ⟨rfl, rfl⟩
theorem lq_st1 (G : gx) (v : Value) : ∀ (i : Nat) (L : List (Option Value)) (j : Nat) (q : Nat × Value), q ∈ lq G j (st1 i v L) → q = (j + i, cv G v) ∨ (q ∈ lq G j L ∧ q.1 ≠ j + i ∧ ¬ (q.1 + 1 = j + i ∧ q.2.category = 2))
  | 0, L, j, q, h => by
    rcases List.mem_cons.mp (show q ∈ (j, cv G v) :: lq G (j + 1) L.tail from h) with rfl | h
    · exact Or.inl rfl
    · have := lq_ge G _ _ _ h
      exact Or.inr ⟨lq_tail G h, by omega, by omega⟩
  | i + 1, [], j, q, h => by
    have h2 : q ∈ lq G (j + 1) (st1 i v []) := h
    rcases lq_st1 G v i [] (j + 1) q h2 with rfl | ⟨h3, -⟩
    · exact Or.inl (by rw [show j + 1 + i = j + (i + 1) by omega])
    · simp [lq] at h3
  | 1, o :: r, j, q, h => by
    have h2 : q ∈ lq G j (ki o :: some v :: r.tail) := h
    cases hk : ki o with
    | none =>
      rw [hk] at h2
      rcases List.mem_cons.mp (show q ∈ (j + 1, cv G v) :: lq G (j + 1 + 1) r.tail from h2) with rfl | h3
      · exact Or.inl rfl
      · have h4 := lq_ge G _ _ _ h3
        refine Or.inr ⟨lq_tail G (L := o :: r) (lq_tail G (L := r) h3), by omega, by omega⟩
    | some w =>
      rw [hk] at h2
      obtain ⟨ho, hw⟩ := ki_cat hk
      subst ho
      rcases List.mem_cons.mp (show q ∈ (j, cv G w) :: (j + 1, cv G v) :: lq G (j + 1 + 1) r.tail from h2) with rfl | h3
      · exact Or.inr ⟨List.mem_cons_self, by simp, fun z => by have z2 := z.2; rw [cv_cat, hw] at z2; omega⟩
      · rcases List.mem_cons.mp h3 with rfl | h3
        · exact Or.inl rfl
        · have h4 := lq_ge G _ _ _ h3
          refine Or.inr ⟨lq_tail G (L := some w :: r) (lq_tail G (L := r) h3), by omega, by omega⟩
  | i + 2, o :: r, j, q, h => by
    have h2 : q ∈ lq G j (o :: st1 (i + 1) v r) := h
    have key : q ∈ lq G (j + 1) (st1 (i + 1) v r) → q = (j + (i + 2), cv G v) ∨ (q ∈ lq G j (o :: r) ∧ q.1 ≠ j + (i + 2) ∧ ¬ (q.1 + 1 = j + (i + 2) ∧ q.2.category = 2)) := by
      intro h3
      rcases lq_st1 G v (i + 1) r (j + 1) q h3 with rfl | ⟨a, b, c⟩
      · exact Or.inl (by rw [show j + 1 + (i + 1) = j + (i + 2) by omega])
      · exact Or.inr ⟨lq_tail G (L := o :: r) a, by omega, by rw [show j + (i + 2) = j + 1 + (i + 1) by omega]; exact c⟩
    cases o with
    | none => exact key h2
    | some w =>
      rcases List.mem_cons.mp (show q ∈ (j, cv G w) :: lq G (j + 1) (st1 (i + 1) v r) from h2) with rfl | h3
      · exact Or.inr ⟨List.mem_cons_self, by simp, by simp⟩
      · exact key h3
theorem lq_st2 (G : gx) (v : Value) : ∀ (i : Nat) (L : List (Option Value)) (j : Nat) (q : Nat × Value), q ∈ lq G j (st2 i v L) → q = (j + i, cv G v) ∨ (q ∈ lq G j L ∧ q.1 ≠ j + i ∧ q.1 ≠ j + i + 1 ∧ ¬ (q.1 + 1 = j + i ∧ q.2.category = 2))
  | 0, L, j, q, h => by
    rcases List.mem_cons.mp (show q ∈ (j, cv G v) :: lq G (j + 1 + 1) L.tail.tail from h) with rfl | h
    · exact Or.inl rfl
    · have := lq_ge G _ _ _ h
      exact Or.inr ⟨lq_tail G (lq_tail G h), by omega, by omega, by omega⟩
  | i + 1, [], j, q, h => by
    have h2 : q ∈ lq G (j + 1) (st2 i v []) := h
    rcases lq_st2 G v i [] (j + 1) q h2 with rfl | ⟨h3, -⟩
    · exact Or.inl (by rw [show j + 1 + i = j + (i + 1) by omega])
    · simp [lq] at h3
  | 1, o :: r, j, q, h => by
    have h2 : q ∈ lq G j (ki o :: some v :: none :: r.tail.tail) := h
    cases hk : ki o with
    | none =>
      rw [hk] at h2
      rcases List.mem_cons.mp (show q ∈ (j + 1, cv G v) :: lq G (j + 1 + 1 + 1) r.tail.tail from h2) with rfl | h3
      · exact Or.inl rfl
      · have h4 := lq_ge G _ _ _ h3
        refine Or.inr ⟨lq_tail G (L := o :: r) (lq_tail G (L := r) (lq_tail G (L := r.tail) h3)), by omega, by omega, by omega⟩
    | some w =>
      rw [hk] at h2
      obtain ⟨ho, hw⟩ := ki_cat hk
      subst ho
      rcases List.mem_cons.mp (show q ∈ (j, cv G w) :: (j + 1, cv G v) :: lq G (j + 1 + 1 + 1) r.tail.tail from h2) with rfl | h3
      · exact Or.inr ⟨List.mem_cons_self, by simp, by show j ≠ j + 1 + 1; omega, fun z => by have z2 := z.2; rw [cv_cat, hw] at z2; omega⟩
      · rcases List.mem_cons.mp h3 with rfl | h3
        · exact Or.inl rfl
        · have h4 := lq_ge G _ _ _ h3
          refine Or.inr ⟨lq_tail G (L := some w :: r) (lq_tail G (L := r) (lq_tail G (L := r.tail) h3)), by omega, by omega, by omega⟩
  | i + 2, o :: r, j, q, h => by
    have h2 : q ∈ lq G j (o :: st2 (i + 1) v r) := h
    have key : q ∈ lq G (j + 1) (st2 (i + 1) v r) → q = (j + (i + 2), cv G v) ∨ (q ∈ lq G j (o :: r) ∧ q.1 ≠ j + (i + 2) ∧ q.1 ≠ j + (i + 2) + 1 ∧ ¬ (q.1 + 1 = j + (i + 2) ∧ q.2.category = 2)) := by
      intro h3
      rcases lq_st2 G v (i + 1) r (j + 1) q h3 with rfl | ⟨a, b, b2, c⟩
      · exact Or.inl (by rw [show j + 1 + (i + 1) = j + (i + 2) by omega])
      · exact Or.inr ⟨lq_tail G (L := o :: r) a, by omega, by omega, by rw [show j + (i + 2) = j + 1 + (i + 1) by omega]; exact c⟩
    cases o with
    | none => exact key h2
    | some w =>
      rcases List.mem_cons.mp (show q ∈ (j, cv G w) :: lq G (j + 1) (st2 (i + 1) v r) from h2) with rfl | h3
      · exact Or.inr ⟨List.mem_cons_self, by simp, by show j ≠ j + (i + 2) + 1; omega, by simp⟩
      · exact key h3
theorem lh_st1 {G : gx} {ls : Array Slot} {nL i : Nat} {v : Value} {L : List (Option Value)} (h : lv_has ls nL ((i, cv G v) :: (lq G 0 L).filter (fun q => !(q.1 == i) && !(q.1 + 1 == i && q.2.category == 2)))) : lv_has ls nL (lq G 0 (st1 i v L)) := by
  refine ⟨h.1, h.2.1, fun q hq => h.2.2 q ?_⟩
  rcases lq_st1 G v i L 0 q hq with rfl | ⟨a, b, c⟩
  · rw [Nat.zero_add]; exact List.mem_cons_self
  · rw [Nat.zero_add] at b c
    refine List.mem_cons_of_mem _ (List.mem_filter.mpr ⟨a, ?_⟩)
    simp only [Bool.and_eq_true, Bool.not_eq_true', beq_eq_false_iff_ne, Bool.and_eq_false_iff, ne_eq]
    refine ⟨b, ?_⟩
    by_cases z : q.1 + 1 = i
    · exact Or.inr (fun z2 => c ⟨z, z2⟩)
    · exact Or.inl z
theorem lh_st2 {G : gx} {ls : Array Slot} {nL i : Nat} {v : Value} {L : List (Option Value)} (h : lv_has ls nL ((i, cv G v) :: (lq G 0 L).filter (fun q => !(q.1 == i) && (!(q.1 == i + 1) && !(q.1 + 1 == i && q.2.category == 2))))) : lv_has ls nL (lq G 0 (st2 i v L)) := by
  refine ⟨h.1, h.2.1, fun q hq => h.2.2 q ?_⟩
  rcases lq_st2 G v i L 0 q hq with rfl | ⟨a, b, b2, c⟩
  · rw [Nat.zero_add]; exact List.mem_cons_self
  · rw [Nat.zero_add] at b b2 c
    refine List.mem_cons_of_mem _ (List.mem_filter.mpr ⟨a, ?_⟩)
    simp only [Bool.and_eq_true, Bool.not_eq_true', beq_eq_false_iff_ne, Bool.and_eq_false_iff, ne_eq]
    refine ⟨b, b2, ?_⟩
    by_cases z : q.1 + 1 = i
    · exact Or.inr (fun z2 => c ⟨z, z2⟩)
    · exact Or.inl z
theorem lh_get {G : gx} {ls : Array Slot} {nL i : Nat} {v : Value} {L : List (Option Value)} (h : lv_has ls nL (lq G 0 L)) (hg : L[i]? = some (some v)) : ls[i]? = some (.val (cv G v)) := by
  have := h.2.2 _ (lq_get G L 0 i v hg)
  rw [Nat.zero_add] at this
  exact this
end
section
/-! THE ROWS of our judgement: one an instruction -/
theorem V_iconst {G : gx} {y : my} {b : bg} {pc : Nat} {L : List (Option Value)} {S : List Value} {h : ah} {Q : Option Value → ah → Prop} {n : Int} {v : Int32} (hd : decode y.2.1 pc = .ok (.iconst n, 1)) (hv : Int32.ofInt n = v) (k : V G y b (pc + 1) L (.int v :: S) h Q) : V G y b pc L S h Q := fun p e s m args below meth c H locs ls C c1 c2 hP hS hl => lv_iconst C.1 C.2.1 hd hv (k p e s m args below meth c H locs ls C c1 c2 hP hS hl)
theorem V_bipush {G : gx} {y : my} {b : bg} {pc : Nat} {L : List (Option Value)} {S : List Value} {h : ah} {Q : Option Value → ah → Prop} {n : Int} {v : Int32} (hd : decode y.2.1 pc = .ok (.bipush n, 2)) (hv : (Int8.ofInt n).toInt32 = v) (k : V G y b (pc + 2) L (.int v :: S) h Q) : V G y b pc L S h Q := fun p e s m args below meth c H locs ls C c1 c2 hP hS hl => lv_bipush C.1 C.2.1 hd hv (k p e s m args below meth c H locs ls C c1 c2 hP hS hl)
theorem V_sipush {G : gx} {y : my} {b : bg} {pc : Nat} {L : List (Option Value)} {S : List Value} {h : ah} {Q : Option Value → ah → Prop} {n : Int} {v : Int32} (hd : decode y.2.1 pc = .ok (.sipush n, 3)) (hv : (Int16.ofInt n).toInt32 = v) (k : V G y b (pc + 3) L (.int v :: S) h Q) : V G y b pc L S h Q := fun p e s m args below meth c H locs ls C c1 c2 hP hS hl => lv_sipush C.1 C.2.1 hd hv (k p e s m args below meth c H locs ls C c1 c2 hP hS hl)
theorem V_lconst {G : gx} {y : my} {b : bg} {pc : Nat} {L : List (Option Value)} {S : List Value} {h : ah} {Q : Option Value → ah → Prop} {n : Fin 2} {v : Int64} (hd : decode y.2.1 pc = .ok (.lconst n, 1)) (hv : Int64.ofNat (n : Nat) = v) (k : V G y b (pc + 1) L (.long v :: S) h Q) : V G y b pc L S h Q := fun p e s m args below meth c H locs ls C c1 c2 hP hS hl => lv_lconst C.1 C.2.1 hd hv (k p e s m args below meth c H locs ls C c1 c2 hP hS hl)
theorem V_iload_n {G : gx} {y : my} {b : bg} {pc : Nat} {L : List (Option Value)} {S : List Value} {h : ah} {Q : Option Value → ah → Prop} {j : Fin 4} {i : Nat} {x : Int32} (hd : decode y.2.1 pc = .ok (.iload_n j, 1)) (hi : (j : Nat) = i) (hg : L[i]? = some (some (.int x))) (k : V G y b (pc + 1) L (.int x :: S) h Q) : V G y b pc L S h Q := fun p e s m args below meth c H locs ls C c1 c2 hP hS hl => lv_iload_n C.1 C.2.1 hd hi (lh_get hl hg) (k p e s m args below meth c H locs ls C c1 c2 hP hS hl)
theorem V_iload {G : gx} {y : my} {b : bg} {pc : Nat} {L : List (Option Value)} {S : List Value} {h : ah} {Q : Option Value → ah → Prop} {i : Nat} {x : Int32} (hd : decode y.2.1 pc = .ok (.iload i, 2)) (hg : L[i]? = some (some (.int x))) (k : V G y b (pc + 2) L (.int x :: S) h Q) : V G y b pc L S h Q := fun p e s m args below meth c H locs ls C c1 c2 hP hS hl => lv_iload C.1 C.2.1 hd (lh_get hl hg) (k p e s m args below meth c H locs ls C c1 c2 hP hS hl)
theorem V_lload_n {G : gx} {y : my} {b : bg} {pc : Nat} {L : List (Option Value)} {S : List Value} {h : ah} {Q : Option Value → ah → Prop} {j : Fin 4} {i : Nat} {x : Int64} (hd : decode y.2.1 pc = .ok (.lload_n j, 1)) (hi : (j : Nat) = i) (hg : L[i]? = some (some (.long x))) (k : V G y b (pc + 1) L (.long x :: S) h Q) : V G y b pc L S h Q := fun p e s m args below meth c H locs ls C c1 c2 hP hS hl => lv_lload_n C.1 C.2.1 hd hi (lh_get hl hg) (k p e s m args below meth c H locs ls C c1 c2 hP hS hl)
theorem V_lload {G : gx} {y : my} {b : bg} {pc : Nat} {L : List (Option Value)} {S : List Value} {h : ah} {Q : Option Value → ah → Prop} {i : Nat} {x : Int64} (hd : decode y.2.1 pc = .ok (.lload i, 2)) (hg : L[i]? = some (some (.long x))) (k : V G y b (pc + 2) L (.long x :: S) h Q) : V G y b pc L S h Q := fun p e s m args below meth c H locs ls C c1 c2 hP hS hl => lv_lload C.1 C.2.1 hd (lh_get hl hg) (k p e s m args below meth c H locs ls C c1 c2 hP hS hl)
theorem V_aload_n {G : gx} {y : my} {b : bg} {pc : Nat} {L : List (Option Value)} {S : List Value} {h : ah} {Q : Option Value → ah → Prop} {j : Fin 4} {i x : Nat} (hd : decode y.2.1 pc = .ok (.aload_n j, 1)) (hi : (j : Nat) = i) (hg : L[i]? = some (some (.ref x))) (k : V G y b (pc + 1) L (.ref x :: S) h Q) : V G y b pc L S h Q := fun p e s m args below meth c H locs ls C c1 c2 hP hS hl => lv_aload_n C.1 C.2.1 hd hi (lh_get hl hg) (k p e s m args below meth c H locs ls C c1 c2 hP hS hl)
theorem V_aload {G : gx} {y : my} {b : bg} {pc : Nat} {L : List (Option Value)} {S : List Value} {h : ah} {Q : Option Value → ah → Prop} {i x : Nat} (hd : decode y.2.1 pc = .ok (.aload i, 2)) (hg : L[i]? = some (some (.ref x))) (k : V G y b (pc + 2) L (.ref x :: S) h Q) : V G y b pc L S h Q := fun p e s m args below meth c H locs ls C c1 c2 hP hS hl => lv_aload C.1 C.2.1 hd (lh_get hl hg) (k p e s m args below meth c H locs ls C c1 c2 hP hS hl)
theorem V_istore_n {G : gx} {y : my} {b : bg} {pc : Nat} {L : List (Option Value)} {S : List Value} {h : ah} {Q : Option Value → ah → Prop} {j : Fin 4} {i : Nat} {x : Int32} (hd : decode y.2.1 pc = .ok (.istore_n j, 1)) (hi : (j : Nat) = i) (hn : i < y.2.2.1) (k : V G y b (pc + 1) (st1 i (.int x) L) S h Q) : V G y b pc L (.int x :: S) h Q := fun p e s m args below meth c H locs ls C c1 c2 hP hS hl => lv_istore_n C.1 C.2.1 hd hi hl hn rfl (fun ls hl => k p e s m args below meth c H locs ls C c1 c2 hP hS (lh_st1 hl))
theorem V_istore {G : gx} {y : my} {b : bg} {pc : Nat} {L : List (Option Value)} {S : List Value} {h : ah} {Q : Option Value → ah → Prop} {i : Nat} {x : Int32} (hd : decode y.2.1 pc = .ok (.istore i, 2))  (hn : i < y.2.2.1) (k : V G y b (pc + 2) (st1 i (.int x) L) S h Q) : V G y b pc L (.int x :: S) h Q := fun p e s m args below meth c H locs ls C c1 c2 hP hS hl => lv_istore C.1 C.2.1 hd hl hn rfl (fun ls hl => k p e s m args below meth c H locs ls C c1 c2 hP hS (lh_st1 hl))
theorem V_lstore_n {G : gx} {y : my} {b : bg} {pc : Nat} {L : List (Option Value)} {S : List Value} {h : ah} {Q : Option Value → ah → Prop} {j : Fin 4} {i : Nat} {x : Int64} (hd : decode y.2.1 pc = .ok (.lstore_n j, 1)) (hi : (j : Nat) = i) (hn : i + 1 < y.2.2.1) (k : V G y b (pc + 1) (st2 i (.long x) L) S h Q) : V G y b pc L (.long x :: S) h Q := fun p e s m args below meth c H locs ls C c1 c2 hP hS hl => lv_lstore_n C.1 C.2.1 hd hi hl hn rfl (fun ls hl => k p e s m args below meth c H locs ls C c1 c2 hP hS (lh_st2 hl))
theorem V_lstore {G : gx} {y : my} {b : bg} {pc : Nat} {L : List (Option Value)} {S : List Value} {h : ah} {Q : Option Value → ah → Prop} {i : Nat} {x : Int64} (hd : decode y.2.1 pc = .ok (.lstore i, 2))  (hn : i + 1 < y.2.2.1) (k : V G y b (pc + 2) (st2 i (.long x) L) S h Q) : V G y b pc L (.long x :: S) h Q := fun p e s m args below meth c H locs ls C c1 c2 hP hS hl => lv_lstore C.1 C.2.1 hd hl hn rfl (fun ls hl => k p e s m args below meth c H locs ls C c1 c2 hP hS (lh_st2 hl))
theorem V_astore_n {G : gx} {y : my} {b : bg} {pc : Nat} {L : List (Option Value)} {S : List Value} {h : ah} {Q : Option Value → ah → Prop} {j : Fin 4} {i x : Nat} (hd : decode y.2.1 pc = .ok (.astore_n j, 1)) (hi : (j : Nat) = i) (hn : i < y.2.2.1) (k : V G y b (pc + 1) (st1 i (.ref x) L) S h Q) : V G y b pc L (.ref x :: S) h Q := fun p e s m args below meth c H locs ls C c1 c2 hP hS hl => lv_astore_n C.1 C.2.1 hd hi hl hn rfl (fun ls hl => k p e s m args below meth c H locs ls C c1 c2 hP hS (lh_st1 hl))
theorem V_astore {G : gx} {y : my} {b : bg} {pc : Nat} {L : List (Option Value)} {S : List Value} {h : ah} {Q : Option Value → ah → Prop} {i x : Nat} (hd : decode y.2.1 pc = .ok (.astore i, 2))  (hn : i < y.2.2.1) (k : V G y b (pc + 2) (st1 i (.ref x) L) S h Q) : V G y b pc L (.ref x :: S) h Q := fun p e s m args below meth c H locs ls C c1 c2 hP hS hl => lv_astore C.1 C.2.1 hd hl hn rfl (fun ls hl => k p e s m args below meth c H locs ls C c1 c2 hP hS (lh_st1 hl))
theorem lv_in {ls : Array Slot} {nL i : Nat} {v : Value} {l : List (Nat × Value)} (h : lv_has ls nL l) (hv : ls[i]? = some (.val v)) : lv_has ls nL ((i, v) :: l) := ⟨h.1, h.2.1, fun q hq => by
  rcases List.mem_cons.mp hq with rfl | hq
  · exact hv
  · exact h.2.2 q hq⟩
theorem lh_st1' {G : gx} {ls : Array Slot} {nL i : Nat} {v w : Value} {L : List (Option Value)} (h : lv_has ls nL ((i, cv G v) :: (((i, w) :: lq G 0 L).filter (fun q => !(q.1 == i) && !(q.1 + 1 == i && q.2.category == 2))))) : lv_has ls nL (lq G 0 (st1 i v L)) := by
  refine lh_st1 ⟨h.1, h.2.1, fun q hq => h.2.2 q ?_⟩
  rcases List.mem_cons.mp hq with rfl | hq
  · exact List.mem_cons_self
  · exact List.mem_cons_of_mem _ (List.mem_filter.mpr ⟨List.mem_cons_of_mem _ (List.mem_filter.mp hq).1, (List.mem_filter.mp hq).2⟩)
theorem V_iinc {G : gx} {y : my} {b : bg} {pc : Nat} {L : List (Option Value)} {S : List Value} {h : ah} {Q : Option Value → ah → Prop} {i : Nat} {n : Int} {x : Int32} (hd : decode y.2.1 pc = .ok (.iinc i n, 3)) (hg : L[i]? = some (some (.int x))) (hn : i < y.2.2.1) (k : V G y b (pc + 3) (st1 i (.int (x + Int32.ofInt n)) L) S h Q) : V G y b pc L S h Q := fun p e s m args below meth c H locs ls C c1 c2 hP hS hl => lv_iinc C.1 C.2.1 hd (lv_in hl (lh_get hl hg)) (k := 0) rfl rfl hn rfl (fun ls hl => k p e s m args below meth c H locs ls C c1 c2 hP hS (lh_st1' hl))
theorem V_iadd {G : gx} {y : my} {b : bg} {pc : Nat} {L : List (Option Value)} {S : List Value} {h : ah} {Q : Option Value → ah → Prop} {x z : Int32} (hd : decode y.2.1 pc = .ok (.iadd, 1))  (k : V G y b (pc + 1) L (.int (x + z) :: S) h Q) : V G y b pc L (.int z :: .int x :: S) h Q := fun p e s m args below meth c H locs ls C c1 c2 hP hS hl => lv_iadd C.1 C.2.1 hd  (k p e s m args below meth c H locs ls C c1 c2 hP hS hl)
theorem V_isub {G : gx} {y : my} {b : bg} {pc : Nat} {L : List (Option Value)} {S : List Value} {h : ah} {Q : Option Value → ah → Prop} {x z : Int32} (hd : decode y.2.1 pc = .ok (.isub, 1))  (k : V G y b (pc + 1) L (.int (x - z) :: S) h Q) : V G y b pc L (.int z :: .int x :: S) h Q := fun p e s m args below meth c H locs ls C c1 c2 hP hS hl => lv_isub C.1 C.2.1 hd  (k p e s m args below meth c H locs ls C c1 c2 hP hS hl)
theorem V_imul {G : gx} {y : my} {b : bg} {pc : Nat} {L : List (Option Value)} {S : List Value} {h : ah} {Q : Option Value → ah → Prop} {x z : Int32} (hd : decode y.2.1 pc = .ok (.imul, 1))  (k : V G y b (pc + 1) L (.int (x * z) :: S) h Q) : V G y b pc L (.int z :: .int x :: S) h Q := fun p e s m args below meth c H locs ls C c1 c2 hP hS hl => lv_imul C.1 C.2.1 hd  (k p e s m args below meth c H locs ls C c1 c2 hP hS hl)
theorem V_iand {G : gx} {y : my} {b : bg} {pc : Nat} {L : List (Option Value)} {S : List Value} {h : ah} {Q : Option Value → ah → Prop} {x z : Int32} (hd : decode y.2.1 pc = .ok (.iand, 1))  (k : V G y b (pc + 1) L (.int (x &&& z) :: S) h Q) : V G y b pc L (.int z :: .int x :: S) h Q := fun p e s m args below meth c H locs ls C c1 c2 hP hS hl => lv_iand C.1 C.2.1 hd  (k p e s m args below meth c H locs ls C c1 c2 hP hS hl)
theorem V_ior {G : gx} {y : my} {b : bg} {pc : Nat} {L : List (Option Value)} {S : List Value} {h : ah} {Q : Option Value → ah → Prop} {x z : Int32} (hd : decode y.2.1 pc = .ok (.ior, 1))  (k : V G y b (pc + 1) L (.int (x ||| z) :: S) h Q) : V G y b pc L (.int z :: .int x :: S) h Q := fun p e s m args below meth c H locs ls C c1 c2 hP hS hl => lv_ior C.1 C.2.1 hd  (k p e s m args below meth c H locs ls C c1 c2 hP hS hl)
theorem V_idiv {G : gx} {y : my} {b : bg} {pc : Nat} {L : List (Option Value)} {S : List Value} {h : ah} {Q : Option Value → ah → Prop} {x z : Int32} (hd : decode y.2.1 pc = .ok (.idiv, 1)) (hz : ¬ z = 0) (k : V G y b (pc + 1) L (.int (x / z) :: S) h Q) : V G y b pc L (.int z :: .int x :: S) h Q := fun p e s m args below meth c H locs ls C c1 c2 hP hS hl => lv_idiv C.1 C.2.1 hd hz (k p e s m args below meth c H locs ls C c1 c2 hP hS hl)
theorem V_irem {G : gx} {y : my} {b : bg} {pc : Nat} {L : List (Option Value)} {S : List Value} {h : ah} {Q : Option Value → ah → Prop} {x z : Int32} (hd : decode y.2.1 pc = .ok (.irem, 1)) (hz : ¬ z = 0) (k : V G y b (pc + 1) L (.int (x - x / z * z) :: S) h Q) : V G y b pc L (.int z :: .int x :: S) h Q := fun p e s m args below meth c H locs ls C c1 c2 hP hS hl => lv_irem C.1 C.2.1 hd hz (k p e s m args below meth c H locs ls C c1 c2 hP hS hl)
theorem V_ladd {G : gx} {y : my} {b : bg} {pc : Nat} {L : List (Option Value)} {S : List Value} {h : ah} {Q : Option Value → ah → Prop} {x z : Int64} (hd : decode y.2.1 pc = .ok (.ladd, 1))  (k : V G y b (pc + 1) L (.long (x + z) :: S) h Q) : V G y b pc L (.long z :: .long x :: S) h Q := fun p e s m args below meth c H locs ls C c1 c2 hP hS hl => lv_ladd C.1 C.2.1 hd  (k p e s m args below meth c H locs ls C c1 c2 hP hS hl)
theorem V_lsub {G : gx} {y : my} {b : bg} {pc : Nat} {L : List (Option Value)} {S : List Value} {h : ah} {Q : Option Value → ah → Prop} {x z : Int64} (hd : decode y.2.1 pc = .ok (.lsub, 1))  (k : V G y b (pc + 1) L (.long (x - z) :: S) h Q) : V G y b pc L (.long z :: .long x :: S) h Q := fun p e s m args below meth c H locs ls C c1 c2 hP hS hl => lv_lsub C.1 C.2.1 hd  (k p e s m args below meth c H locs ls C c1 c2 hP hS hl)
theorem V_lmul {G : gx} {y : my} {b : bg} {pc : Nat} {L : List (Option Value)} {S : List Value} {h : ah} {Q : Option Value → ah → Prop} {x z : Int64} (hd : decode y.2.1 pc = .ok (.lmul, 1))  (k : V G y b (pc + 1) L (.long (x * z) :: S) h Q) : V G y b pc L (.long z :: .long x :: S) h Q := fun p e s m args below meth c H locs ls C c1 c2 hP hS hl => lv_lmul C.1 C.2.1 hd  (k p e s m args below meth c H locs ls C c1 c2 hP hS hl)
theorem V_land {G : gx} {y : my} {b : bg} {pc : Nat} {L : List (Option Value)} {S : List Value} {h : ah} {Q : Option Value → ah → Prop} {x z : Int64} (hd : decode y.2.1 pc = .ok (.land, 1))  (k : V G y b (pc + 1) L (.long (x &&& z) :: S) h Q) : V G y b pc L (.long z :: .long x :: S) h Q := fun p e s m args below meth c H locs ls C c1 c2 hP hS hl => lv_land C.1 C.2.1 hd  (k p e s m args below meth c H locs ls C c1 c2 hP hS hl)
theorem V_lor {G : gx} {y : my} {b : bg} {pc : Nat} {L : List (Option Value)} {S : List Value} {h : ah} {Q : Option Value → ah → Prop} {x z : Int64} (hd : decode y.2.1 pc = .ok (.lor, 1))  (k : V G y b (pc + 1) L (.long (x ||| z) :: S) h Q) : V G y b pc L (.long z :: .long x :: S) h Q := fun p e s m args below meth c H locs ls C c1 c2 hP hS hl => lv_lor C.1 C.2.1 hd  (k p e s m args below meth c H locs ls C c1 c2 hP hS hl)
theorem V_ldiv {G : gx} {y : my} {b : bg} {pc : Nat} {L : List (Option Value)} {S : List Value} {h : ah} {Q : Option Value → ah → Prop} {x z : Int64} (hd : decode y.2.1 pc = .ok (.ldiv, 1)) (hz : ¬ z = 0) (k : V G y b (pc + 1) L (.long (x / z) :: S) h Q) : V G y b pc L (.long z :: .long x :: S) h Q := fun p e s m args below meth c H locs ls C c1 c2 hP hS hl => lv_ldiv C.1 C.2.1 hd hz (k p e s m args below meth c H locs ls C c1 c2 hP hS hl)
theorem V_i2l {G : gx} {y : my} {b : bg} {pc : Nat} {L : List (Option Value)} {S : List Value} {h : ah} {Q : Option Value → ah → Prop} {x : Int32} (hd : decode y.2.1 pc = .ok (.i2l, 1))  (k : V G y b (pc + 1) L (.long x.toInt64 :: S) h Q) : V G y b pc L (.int x :: S) h Q := fun p e s m args below meth c H locs ls C c1 c2 hP hS hl => lv_i2l C.1 C.2.1 hd rfl (k p e s m args below meth c H locs ls C c1 c2 hP hS hl)
theorem V_l2i {G : gx} {y : my} {b : bg} {pc : Nat} {L : List (Option Value)} {S : List Value} {h : ah} {Q : Option Value → ah → Prop} {x : Int64} (hd : decode y.2.1 pc = .ok (.l2i, 1))  (k : V G y b (pc + 1) L (.int x.toInt32 :: S) h Q) : V G y b pc L (.long x :: S) h Q := fun p e s m args below meth c H locs ls C c1 c2 hP hS hl => lv_l2i C.1 C.2.1 hd rfl (k p e s m args below meth c H locs ls C c1 c2 hP hS hl)
theorem V_i2b {G : gx} {y : my} {b : bg} {pc : Nat} {L : List (Option Value)} {S : List Value} {h : ah} {Q : Option Value → ah → Prop} {x : Int32} (hd : decode y.2.1 pc = .ok (.i2b, 1))  (k : V G y b (pc + 1) L (.int x.toInt8.toInt32 :: S) h Q) : V G y b pc L (.int x :: S) h Q := fun p e s m args below meth c H locs ls C c1 c2 hP hS hl => lv_i2b C.1 C.2.1 hd rfl (k p e s m args below meth c H locs ls C c1 c2 hP hS hl)
theorem V_i2s {G : gx} {y : my} {b : bg} {pc : Nat} {L : List (Option Value)} {S : List Value} {h : ah} {Q : Option Value → ah → Prop} {x : Int32} (hd : decode y.2.1 pc = .ok (.i2s, 1))  (k : V G y b (pc + 1) L (.int x.toInt16.toInt32 :: S) h Q) : V G y b pc L (.int x :: S) h Q := fun p e s m args below meth c H locs ls C c1 c2 hP hS hl => lv_i2s C.1 C.2.1 hd rfl (k p e s m args below meth c H locs ls C c1 c2 hP hS hl)
theorem V_i2c {G : gx} {y : my} {b : bg} {pc : Nat} {L : List (Option Value)} {S : List Value} {h : ah} {Q : Option Value → ah → Prop} {x : Int32} (hd : decode y.2.1 pc = .ok (.i2c, 1))  (k : V G y b (pc + 1) L (.int (x.toUInt32 % 65536).toInt32 :: S) h Q) : V G y b pc L (.int x :: S) h Q := fun p e s m args below meth c H locs ls C c1 c2 hP hS hl => lv_i2c C.1 C.2.1 hd rfl (k p e s m args below meth c H locs ls C c1 c2 hP hS hl)
theorem V_lushr {G : gx} {y : my} {b : bg} {pc : Nat} {L : List (Option Value)} {S : List Value} {h : ah} {Q : Option Value → ah → Prop} {x : Int64} {z : Int32} (hd : decode y.2.1 pc = .ok (.lushr, 1))  (k : V G y b (pc + 1) L (.long (x.toUInt64 >>> (z.toInt64.toUInt64 &&& Int64.toUInt64 63)).toInt64 :: S) h Q) : V G y b pc L (.int z :: .long x :: S) h Q := fun p e s m args below meth c H locs ls C c1 c2 hP hS hl => lv_lushr C.1 C.2.1 hd rfl (k p e s m args below meth c H locs ls C c1 c2 hP hS hl)
theorem V_lshl {G : gx} {y : my} {b : bg} {pc : Nat} {L : List (Option Value)} {S : List Value} {h : ah} {Q : Option Value → ah → Prop} {x : Int64} {z : Int32} (hd : decode y.2.1 pc = .ok (.lshl, 1))  (k : V G y b (pc + 1) L (.long (x <<< (z.toInt64 &&& 63)) :: S) h Q) : V G y b pc L (.int z :: .long x :: S) h Q := fun p e s m args below meth c H locs ls C c1 c2 hP hS hl => lv_lshl C.1 C.2.1 hd rfl (k p e s m args below meth c H locs ls C c1 c2 hP hS hl)
theorem V_dup {G : gx} {y : my} {b : bg} {pc : Nat} {L : List (Option Value)} {S : List Value} {h : ah} {Q : Option Value → ah → Prop} {v : Value} (hd : decode y.2.1 pc = .ok (.dup, 1)) (hv : v.category = 1) (k : V G y b (pc + 1) L (v :: v :: S) h Q) : V G y b pc L (v :: S) h Q := fun p e s m args below meth c H locs ls C c1 c2 hP hS hl => lv_dup C.1 C.2.1 hd ((cv_cat G v).trans hv) (k p e s m args below meth c H locs ls C c1 c2 hP hS hl)
theorem V_pop {G : gx} {y : my} {b : bg} {pc : Nat} {L : List (Option Value)} {S : List Value} {h : ah} {Q : Option Value → ah → Prop} {v : Value} (hd : decode y.2.1 pc = .ok (.pop, 1)) (hv : v.category = 1) (k : V G y b (pc + 1) L (S) h Q) : V G y b pc L (v :: S) h Q := fun p e s m args below meth c H locs ls C c1 c2 hP hS hl => lv_pop C.1 C.2.1 hd ((cv_cat G v).trans hv) (k p e s m args below meth c H locs ls C c1 c2 hP hS hl)
theorem V_dup2 {G : gx} {y : my} {b : bg} {pc : Nat} {L : List (Option Value)} {S : List Value} {h : ah} {Q : Option Value → ah → Prop} {v w : Value} (hd : decode y.2.1 pc = .ok (.dup2, 1)) (hv : v.category = 1) (hw : w.category = 1) (k : V G y b (pc + 1) L (v :: w :: v :: w :: S) h Q) : V G y b pc L (v :: w :: S) h Q := fun p e s m args below meth c H locs ls C c1 c2 hP hS hl => lv_dup2_11 C.1 C.2.1 hd ((cv_cat G v).trans hv) ((cv_cat G w).trans hw) (k p e s m args below meth c H locs ls C c1 c2 hP hS hl)
theorem V_lcmp {G : gx} {y : my} {b : bg} {pc : Nat} {L : List (Option Value)} {S : List Value} {h : ah} {Q : Option Value → ah → Prop} {x z : Int64} (hd : decode y.2.1 pc = .ok (.lcmp, 1)) (k : V G y b (pc + 1) L (.int (lg_cmp x z) :: S) h Q) : V G y b pc L (.long z :: .long x :: S) h Q := fun p e s m args below meth c H locs ls C c1 c2 hP hS hl => W.lcmp C.1 C.2.1 hd (k p e s m args below meth c H locs ls C c1 c2 hP hS hl)
-- eq
theorem V_if_eq {G : gx} {y : my} {b : bg} {pc : Nat} {L : List (Option Value)} {S : List Value} {h : ah} {Q : Option Value → ah → Prop} {x : Int32} {off : Int} {t : Nat} (hd : decode y.2.1 pc = .ok (.ifCond .eq off, 3)) (ht : (pc : Int) + off = (t : Int)) (k1 : x = 0 → V G y b t L S h Q) (k2 : ¬ (x = 0) → V G y b (pc + 3) L S h Q) : V G y b pc L (.int x :: S) h Q := fun p e s m args below meth c H locs ls C c1 c2 hP hS hl => lv_if_eq C.1 C.2.1 hd ht (fun z => k1 z p e s m args below meth c H locs ls C c1 c2 hP hS hl) (fun z => k2 z p e s m args below meth c H locs ls C c1 c2 hP hS hl)
theorem V_icmp_eq {G : gx} {y : my} {b : bg} {pc : Nat} {L : List (Option Value)} {S : List Value} {h : ah} {Q : Option Value → ah → Prop} {x z : Int32} {off : Int} {t : Nat} (hd : decode y.2.1 pc = .ok (.if_icmp .eq off, 3)) (ht : (pc : Int) + off = (t : Int)) (k1 : x = z → V G y b t L S h Q) (k2 : ¬ (x = z) → V G y b (pc + 3) L S h Q) : V G y b pc L (.int z :: .int x :: S) h Q := fun p e s m args below meth c H locs ls C c1 c2 hP hS hl => lv_icmp_eq C.1 C.2.1 hd ht (fun z => k1 z p e s m args below meth c H locs ls C c1 c2 hP hS hl) (fun z => k2 z p e s m args below meth c H locs ls C c1 c2 hP hS hl)
-- ne
theorem V_if_ne {G : gx} {y : my} {b : bg} {pc : Nat} {L : List (Option Value)} {S : List Value} {h : ah} {Q : Option Value → ah → Prop} {x : Int32} {off : Int} {t : Nat} (hd : decode y.2.1 pc = .ok (.ifCond .ne off, 3)) (ht : (pc : Int) + off = (t : Int)) (k1 : ¬ x = 0 → V G y b t L S h Q) (k2 : x = 0 → V G y b (pc + 3) L S h Q) : V G y b pc L (.int x :: S) h Q := fun p e s m args below meth c H locs ls C c1 c2 hP hS hl => lv_if_ne C.1 C.2.1 hd ht (fun z => k1 z p e s m args below meth c H locs ls C c1 c2 hP hS hl) (fun z => k2 z p e s m args below meth c H locs ls C c1 c2 hP hS hl)
theorem V_icmp_ne {G : gx} {y : my} {b : bg} {pc : Nat} {L : List (Option Value)} {S : List Value} {h : ah} {Q : Option Value → ah → Prop} {x z : Int32} {off : Int} {t : Nat} (hd : decode y.2.1 pc = .ok (.if_icmp .ne off, 3)) (ht : (pc : Int) + off = (t : Int)) (k1 : ¬ x = z → V G y b t L S h Q) (k2 : x = z → V G y b (pc + 3) L S h Q) : V G y b pc L (.int z :: .int x :: S) h Q := fun p e s m args below meth c H locs ls C c1 c2 hP hS hl => lv_icmp_ne C.1 C.2.1 hd ht (fun z => k1 z p e s m args below meth c H locs ls C c1 c2 hP hS hl) (fun z => k2 z p e s m args below meth c H locs ls C c1 c2 hP hS hl)
-- lt
theorem V_if_lt {G : gx} {y : my} {b : bg} {pc : Nat} {L : List (Option Value)} {S : List Value} {h : ah} {Q : Option Value → ah → Prop} {x : Int32} {off : Int} {t : Nat} (hd : decode y.2.1 pc = .ok (.ifCond .lt off, 3)) (ht : (pc : Int) + off = (t : Int)) (k1 : x < 0 → V G y b t L S h Q) (k2 : ¬ (x < 0) → V G y b (pc + 3) L S h Q) : V G y b pc L (.int x :: S) h Q := fun p e s m args below meth c H locs ls C c1 c2 hP hS hl => lv_if_lt C.1 C.2.1 hd ht (fun z => k1 z p e s m args below meth c H locs ls C c1 c2 hP hS hl) (fun z => k2 z p e s m args below meth c H locs ls C c1 c2 hP hS hl)
theorem V_icmp_lt {G : gx} {y : my} {b : bg} {pc : Nat} {L : List (Option Value)} {S : List Value} {h : ah} {Q : Option Value → ah → Prop} {x z : Int32} {off : Int} {t : Nat} (hd : decode y.2.1 pc = .ok (.if_icmp .lt off, 3)) (ht : (pc : Int) + off = (t : Int)) (k1 : x < z → V G y b t L S h Q) (k2 : ¬ (x < z) → V G y b (pc + 3) L S h Q) : V G y b pc L (.int z :: .int x :: S) h Q := fun p e s m args below meth c H locs ls C c1 c2 hP hS hl => lv_icmp_lt C.1 C.2.1 hd ht (fun z => k1 z p e s m args below meth c H locs ls C c1 c2 hP hS hl) (fun z => k2 z p e s m args below meth c H locs ls C c1 c2 hP hS hl)
-- ge
theorem V_if_ge {G : gx} {y : my} {b : bg} {pc : Nat} {L : List (Option Value)} {S : List Value} {h : ah} {Q : Option Value → ah → Prop} {x : Int32} {off : Int} {t : Nat} (hd : decode y.2.1 pc = .ok (.ifCond .ge off, 3)) (ht : (pc : Int) + off = (t : Int)) (k1 : 0 ≤ x → V G y b t L S h Q) (k2 : ¬ (0 ≤ x) → V G y b (pc + 3) L S h Q) : V G y b pc L (.int x :: S) h Q := fun p e s m args below meth c H locs ls C c1 c2 hP hS hl => lv_if_ge C.1 C.2.1 hd ht (fun z => k1 z p e s m args below meth c H locs ls C c1 c2 hP hS hl) (fun z => k2 z p e s m args below meth c H locs ls C c1 c2 hP hS hl)
theorem V_icmp_ge {G : gx} {y : my} {b : bg} {pc : Nat} {L : List (Option Value)} {S : List Value} {h : ah} {Q : Option Value → ah → Prop} {x z : Int32} {off : Int} {t : Nat} (hd : decode y.2.1 pc = .ok (.if_icmp .ge off, 3)) (ht : (pc : Int) + off = (t : Int)) (k1 : z ≤ x → V G y b t L S h Q) (k2 : ¬ (z ≤ x) → V G y b (pc + 3) L S h Q) : V G y b pc L (.int z :: .int x :: S) h Q := fun p e s m args below meth c H locs ls C c1 c2 hP hS hl => lv_icmp_ge C.1 C.2.1 hd ht (fun z => k1 z p e s m args below meth c H locs ls C c1 c2 hP hS hl) (fun z => k2 z p e s m args below meth c H locs ls C c1 c2 hP hS hl)
-- gt
theorem V_if_gt {G : gx} {y : my} {b : bg} {pc : Nat} {L : List (Option Value)} {S : List Value} {h : ah} {Q : Option Value → ah → Prop} {x : Int32} {off : Int} {t : Nat} (hd : decode y.2.1 pc = .ok (.ifCond .gt off, 3)) (ht : (pc : Int) + off = (t : Int)) (k1 : 0 < x → V G y b t L S h Q) (k2 : ¬ (0 < x) → V G y b (pc + 3) L S h Q) : V G y b pc L (.int x :: S) h Q := fun p e s m args below meth c H locs ls C c1 c2 hP hS hl => lv_if_gt C.1 C.2.1 hd ht (fun z => k1 z p e s m args below meth c H locs ls C c1 c2 hP hS hl) (fun z => k2 z p e s m args below meth c H locs ls C c1 c2 hP hS hl)
theorem V_icmp_gt {G : gx} {y : my} {b : bg} {pc : Nat} {L : List (Option Value)} {S : List Value} {h : ah} {Q : Option Value → ah → Prop} {x z : Int32} {off : Int} {t : Nat} (hd : decode y.2.1 pc = .ok (.if_icmp .gt off, 3)) (ht : (pc : Int) + off = (t : Int)) (k1 : z < x → V G y b t L S h Q) (k2 : ¬ (z < x) → V G y b (pc + 3) L S h Q) : V G y b pc L (.int z :: .int x :: S) h Q := fun p e s m args below meth c H locs ls C c1 c2 hP hS hl => lv_icmp_gt C.1 C.2.1 hd ht (fun z => k1 z p e s m args below meth c H locs ls C c1 c2 hP hS hl) (fun z => k2 z p e s m args below meth c H locs ls C c1 c2 hP hS hl)
-- le
theorem V_if_le {G : gx} {y : my} {b : bg} {pc : Nat} {L : List (Option Value)} {S : List Value} {h : ah} {Q : Option Value → ah → Prop} {x : Int32} {off : Int} {t : Nat} (hd : decode y.2.1 pc = .ok (.ifCond .le off, 3)) (ht : (pc : Int) + off = (t : Int)) (k1 : x ≤ 0 → V G y b t L S h Q) (k2 : ¬ (x ≤ 0) → V G y b (pc + 3) L S h Q) : V G y b pc L (.int x :: S) h Q := fun p e s m args below meth c H locs ls C c1 c2 hP hS hl => lv_if_le C.1 C.2.1 hd ht (fun z => k1 z p e s m args below meth c H locs ls C c1 c2 hP hS hl) (fun z => k2 z p e s m args below meth c H locs ls C c1 c2 hP hS hl)
theorem V_icmp_le {G : gx} {y : my} {b : bg} {pc : Nat} {L : List (Option Value)} {S : List Value} {h : ah} {Q : Option Value → ah → Prop} {x z : Int32} {off : Int} {t : Nat} (hd : decode y.2.1 pc = .ok (.if_icmp .le off, 3)) (ht : (pc : Int) + off = (t : Int)) (k1 : x ≤ z → V G y b t L S h Q) (k2 : ¬ (x ≤ z) → V G y b (pc + 3) L S h Q) : V G y b pc L (.int z :: .int x :: S) h Q := fun p e s m args below meth c H locs ls C c1 c2 hP hS hl => lv_icmp_le C.1 C.2.1 hd ht (fun z => k1 z p e s m args below meth c H locs ls C c1 c2 hP hS hl) (fun z => k2 z p e s m args below meth c H locs ls C c1 c2 hP hS hl)
theorem V_goto {G : gx} {y : my} {b : bg} {pc : Nat} {L : List (Option Value)} {S : List Value} {h : ah} {Q : Option Value → ah → Prop} {off : Int} {t : Nat} (hd : decode y.2.1 pc = .ok (.goto off, 3)) (ht : (pc : Int) + off = (t : Int)) (k : V G y b t L S h Q) : V G y b pc L S h Q := fun p e s m args below meth c H locs ls C c1 c2 hP hS hl => lv_goto C.1 C.2.1 hd ht (k p e s m args below meth c H locs ls C c1 c2 hP hS hl)
theorem V_tabOut {G : gx} {y : my} {b : bg} {pc : Nat} {L : List (Option Value)} {S : List Value} {h : ah} {Q : Option Value → ah → Prop} {x : Int32} {dflt lo hi : Int} {offs : Array Int} {len t : Nat} (hd : decode y.2.1 pc = .ok (.tableswitch dflt lo hi offs, len)) (hz : x.toInt < lo ∨ hi < x.toInt) (ht : (pc : Int) + dflt = (t : Int)) (k : V G y b t L S h Q) : V G y b pc L (.int x :: S) h Q := fun p e s m args below meth c H locs ls C c1 c2 hP hS hl => lv_tableOut C.1 C.2.1 hd hz ht (k p e s m args below meth c H locs ls C c1 c2 hP hS hl)
theorem V_tabIn {G : gx} {y : my} {b : bg} {pc : Nat} {L : List (Option Value)} {S : List Value} {h : ah} {Q : Option Value → ah → Prop} {x : Int32} {dflt lo hi off : Int} {offs : Array Int} {len t : Nat} (hd : decode y.2.1 pc = .ok (.tableswitch dflt lo hi offs, len)) (h1 : ¬ x.toInt < lo) (h2 : ¬ hi < x.toInt) (ho : offs[(x.toInt - lo).toNat]? = some off) (ht : (pc : Int) + off = (t : Int)) (k : V G y b t L S h Q) : V G y b pc L (.int x :: S) h Q := fun p e s m args below meth c H locs ls C c1 c2 hP hS hl => lv_tableIn C.1 C.2.1 hd h1 h2 ho ht (k p e s m args below meth c H locs ls C c1 c2 hP hS hl)
theorem V_look {G : gx} {y : my} {b : bg} {pc : Nat} {L : List (Option Value)} {S : List Value} {h : ah} {Q : Option Value → ah → Prop} {x : Int32} {dflt off : Int} {ps : Array (Int × Int)} {len t : Nat} (hd : decode y.2.1 pc = .ok (.lookupswitch dflt ps, len)) (hp : (ps.toList.zip (ps.toList.drop 1)).all (fun (a, next) => a.1 < next.1) = true) (ho : Op.lookupswitch.offset ps.toList dflt x.toInt = off) (ht : (pc : Int) + off = (t : Int)) (k : V G y b t L S h Q) : V G y b pc L (.int x :: S) h Q := fun p e s m args below meth c H locs ls C c1 c2 hP hS hl => lv_lookup C.1 C.2.1 hd hp ho ht (k p e s m args below meth c H locs ls C c1 c2 hP hS hl)
theorem V_ldc {G : gx} {y : my} {b : bg} {pc : Nat} {L : List (Option Value)} {S : List Value} {h : ah} {Q : Option Value → ah → Prop} {index : Nat} {v : Int32} (hd : decode y.2.1 pc = .ok (.ldc index, 2)) (hw : Cond.constant y.1.cls index v ∈ gw) (k : V G y b (pc + 2) L (.int v :: S) h Q) : V G y b pc L S h Q := fun p e s m args below meth c H locs ls C c1 c2 hP hS hl => lv_ldc C.1 C.2.1 C.2.2.2.2.1 (C.2.2.2.2.2.1 _ (List.mem_cons_of_mem _ hw)) hd (k p e s m args below meth c H locs ls C c1 c2 hP hS hl)
theorem V_ldc2 {G : gx} {y : my} {b : bg} {pc : Nat} {L : List (Option Value)} {S : List Value} {h : ah} {Q : Option Value → ah → Prop} {index : Nat} {v : Int64} (hd : decode y.2.1 pc = .ok (.ldc2_w index, 3)) (hw : Cond.constantLong y.1.cls index v ∈ gw) (k : V G y b (pc + 3) L (.long v :: S) h Q) : V G y b pc L S h Q := fun p e s m args below meth c H locs ls C c1 c2 hP hS hl => lv_ldc2 C.1 C.2.1 C.2.2.2.2.1 (C.2.2.2.2.2.1 _ (List.mem_cons_of_mem _ hw)) hd (k p e s m args below meth c H locs ls C c1 c2 hP hS hl)
end
section
/-! the heap's rows -/
theorem wl_get (G : gx) (h : ah) {k : Nat} (hk : k < (h 0).1) : (wl G h)[k]? = some (g_b G + k, cx G (h (k + 2))) := by
  unfold wl
  rw [List.getElem?_map, List.getElem?_range hk]
  rfl
theorem wl_inv {G : gx} {h : ah} {k : Nat} {q : Nat × va_E} (hk : (wl G h)[k]? = some q) : k < (h 0).1 ∧ q = (g_b G + k, cx G (h (k + 2))) := by
  have hl : k < (wl G h).length := (List.getElem?_eq_some_iff.mp hk).1
  have hl2 : k < (h 0).1 := by simpa [wl] using hl
  exact ⟨hl2, Option.some.inj (hk.symm.trans (wl_get G h hl2))⟩
theorem wl_D (G : gx) (h : ah) : va_D (g_A G) (wl G h) := by
  refine ⟨fun i j p q hp hq hpq => ?_, fun k q hk => ?_⟩
  · rw [(wl_inv hp).2, (wl_inv hq).2] at hpq
    have : g_b G + i = g_b G + j := hpq
    omega
  · rw [(wl_inv hk).2]
    exact Nat.le_add_right _ _
theorem up_0 (h : ah) (k : Nat) (e : ce) : va_up h (k + 2) e 0 = h 0 := by
  unfold va_up
  rw [if_neg (by omega)]
theorem up_s (h : ah) (k : Nat) (e : ce) : va_up h k e k = e := by simp [va_up]
theorem up_n (h : ah) {k j : Nat} (e : ce) (hn : j ≠ k) : va_up h k e j = h j := by simp [va_up, hn]
theorem wl_set (G : gx) (h : ah) {k : Nat} (e : ce) (hk : k < (h 0).1) : (wl G h).set k (g_b G + k, cx G e) = wl G (va_up h (k + 2) e) := by
  apply List.ext_getElem?
  intro i
  by_cases hi : i < (h 0).1
  · rw [wl_get G (va_up h (k + 2) e) (by rw [up_0]; exact hi)]
    by_cases hik : k = i
    · subst hik
      rw [List.getElem?_set_self (by simpa [wl] using hk), up_s]
    · rw [List.getElem?_set_ne hik, wl_get G h hi, up_n h e (by omega)]
  · rw [List.getElem?_eq_none (by simp [wl]; omega), List.getElem?_eq_none (by simp [wl, up_0]; omega)]
theorem Hp.lt {G : gx} {h : ah} {H : Heap} (hP : Hp G h H) {k : Nat} {e : ce} (hc : h (k + 2) = e) (he : e.1 < 100) : k < (h 0).1 := hP.2.1 k (by rw [hc]; exact he)
theorem Hp.el {G : gx} {h : ah} {H : Heap} (hP : Hp G h H) {k : Nat} {e : ce} (hc : h (k + 2) = e) (he : e.1 < 100) : (wl G h)[k]? = some (g_b G + k, cx G e) := by
  rw [wl_get G h (hP.lt hc he), hc]
theorem Hp.at {G : gx} {h : ah} {H : Heap} (hP : Hp G h H) {k : Nat} {e : ce} (hc : h (k + 2) = e) (he : e.1 < 100) : va_at (g_D G) vwCl (g_b G + k, cx G e) H := hP.1 k _ (hP.el hc he)
theorem Hp.set {G : gx} {h : ah} {H H1 : Heap} (hP : Hp G h H) {k : Nat} {e0 e : ce} (hc : h (k + 2) = e0) (h0 : e0.1 < 100) (he : va_at (g_D G) vwCl (g_b G + k, cx G e) H1) (z : H1.size = H.size) (oq : ∀ q : Nat, q ≠ g_b G + k → H1[q]? = H[q]?) : Hp G (va_up h (k + 2) e) H1 := by
  have hk := hP.lt hc h0
  refine ⟨?_, fun j hj => ?_, by rw [up_0, z]; exact hP.2.2⟩
  · rw [← wl_set G h e hk]
    exact hP.1.set (wl_D G h) (wl_get G h hk) he oq
  · rw [up_0]
    by_cases hjk : j = k
    · rw [hjk]; exact hk
    · rw [up_n h e (by omega)] at hj
      exact hP.2.1 j hj
theorem Cx.ex {G : gx} {y : my} {p : Program} {s : State} {m : MethodId} {args : Array Value} {meth : Method} {c : Code} (C : Cx G y p s m args meth c) : p.tables.exec = Jvm.exec := C.1
theorem Cx.own {G : gx} {y : my} {p : Program} {s : State} {m : MethodId} {args : Array Value} {meth : Method} {c : Code} (C : Cx G y p s m args meth c) : s.vm.findClass y.1.cls = some m.cls := C.2.2.2.2.1
theorem Cx.ts {G : gx} {y : my} {p : Program} {s : State} {m : MethodId} {args : Array Value} {meth : Method} {c : Code} (C : Cx G y p s m args meth c) {w : Cond} (hw : w ∈ gw) : w.before args s = true := C.2.2.2.2.2.1 _ (List.mem_cons_of_mem _ hw)
theorem Cx.kt {G : gx} {y : my} {p : Program} {s : State} {m : MethodId} {args : Array Value} {meth : Method} {c : Code} (C : Cx G y p s m args meth c) : Kt G s := C.2.2.2.2.2.2.2.2.1
theorem Cx.ro {G : gx} {y : my} {p : Program} {s : State} {m : MethodId} {args : Array Value} {meth : Method} {c : Code} (C : Cx G y p s m args meth c) : Ro G s s.heap := C.2.2.2.2.2.2.2.2.2.1
theorem Cx.nb {G : gx} {y : my} {p : Program} {s : State} {m : MethodId} {args : Array Value} {meth : Method} {c : Code} (C : Cx G y p s m args meth c) : g_b G ≤ s.heap.size := C.2.2.2.2.2.2.2.2.2.2
theorem Cx.nt {G : gx} {y : my} {p : Program} {s : State} {m : MethodId} {args : Array Value} {meth : Method} {c : Code} (C : Cx G y p s m args meth c) {w : Cond} (hw : w ∈ nw) : w.before args s = true := va_Nw.use (nw_tab hw) (C.kt.2 w hw)
section HR
variable {G : gx} {y : my} {b : bg} {pc : Nat} {L : List (Option Value)} {S : List Value} {h : ah} {Q : Option Value → ah → Prop}
theorem V_get {k ci j index N : Nat} {fs : List Value} {v : Value} {C0 : String} {T : u_T} (hd : decode y.2.1 pc = .ok (.getfield index, 3)) (hcl : vwCl[ci]? = some (C0, T, N)) (hc : h (k + 2) = (ci, .inl fs)) (hci : ci < 100) (hj : j < N) (hw : Cond.fieldLink y.1.cls index (T j).1 (T j).2.1 (T j).2.2.1 ∈ gw) (hv : fs[j]? = some v) (kk : V G y b (pc + 3) L (v :: S) h Q) : V G y b pc L (.ref (k + 2) :: S) h Q :=
  fun p e s m args below meth c H locs ls C c1 c2 hP hS hl => va_get C.1 C.2.1 C.2.2.2.2.2.1 (fun w hh => List.mem_cons_of_mem _ (gw_cls hcl w hh)) C.own C.kt.1 hP.1 k (hP.el hc hci) hcl j hj (C.ts hw) (fun _ z => z) (by rw [List.getElem?_map, hv]; rfl) hd (kk p e s m args below meth c H locs ls C c1 c2 hP hS hl)
theorem V_getN {k ci j index N : Nat} {fs : List Value} {v : Value} {C0 host : String} {T : u_T} (hd : decode y.2.1 pc = .ok (.getfield index, 3)) (hcl : vwCl[ci]? = some (C0, T, N)) (hc : h (k + 2) = (ci, .inl fs)) (hci : ci < 100) (hj : j < N) (hw : Cond.fieldLinkNest y.1.cls index (T j).1 (T j).2.1 (T j).2.2.1 host ∈ nw) (hv : fs[j]? = some v) (kk : V G y b (pc + 3) L (v :: S) h Q) : V G y b pc L (.ref (k + 2) :: S) h Q :=
  fun p e s m args below meth c H locs ls C c1 c2 hP hS hl => va_getN C.1 C.2.1 C.2.2.2.2.2.1 (fun w hh => List.mem_cons_of_mem _ (gw_cls hcl w hh)) C.own C.kt.1 hP.1 k (hP.el hc hci) hcl j hj (C.nt hw) (fun _ z => z) (by rw [List.getElem?_map, hv]; rfl) hd (kk p e s m args below meth c H locs ls C c1 c2 hP hS hl)
theorem put_at {ci j N a : Nat} {fs : List Value} {v : Value} {C0 : String} {T : u_T} {cell : Cell} {H1 : Heap} {s : State} {args : Array Value} {ws : List Cond} (hts : ∀ w ∈ ws, w.before args s = true) (hin : ∀ w ∈ gw, w ∈ ws) (hK : Kt G s) (hcl : vwCl[ci]? = some (C0, T, N)) (hj : j < N) (hl : j < fs.length) (q2 : cell.cls = (g_D G).1 ci) (q3 : cell.vm = .none) (q4 : ∀ k, k < N → cell.slots[(g_D G).2 ci k]? = some (vp_V (fs.map (cv G)) k)) (e1 : H1[a]? = some (cell.setSlot ((g_D G).2 ci j) (cv G v))) : va_at (g_D G) vwCl (a, cx G (ci, .inl (fs.set j v))) H1 := by
  have hap := va_apart (own := C0) (D := g_D G) (tys := g_ty G) hts (fun w hh => hin w (gw_cls hcl w hh)) (cl_ty ci) (cl_tyok hcl) (cl_nm hcl) hK.1 hcl
  refine ⟨_, hcl, ?_⟩
  refine t_OB.to (V := updV (vp_V (fs.map (cv G))) j (cv G v)) ⟨_, e1, q2, q3, t_set q4 hap hj _⟩ (fun i _ => ?_)
  rw [vp_updV_set (by simpa using hl), List.map_set]
theorem V_put {k ci j index N : Nat} {fs : List Value} {v : Value} {C0 : String} {T : u_T} {ty : FieldType} (hd : decode y.2.1 pc = .ok (.putfield index, 3)) (hcl : vwCl[ci]? = some (C0, T, N)) (hc : h (k + 2) = (ci, .inl fs)) (hci : ci < 100) (hj : j < N) (hw : Cond.fieldLink y.1.cls index (T j).1 (T j).2.1 (T j).2.2.1 ∈ gw) (hfin : (T j).2.2.2 = false) (hty : parseFieldDescriptor (T j).2.2.1 = some ty) (hn : narrow ty (cv G v) = cv G v) (hfit : fits ty (cv G v) = true) (hl : j < fs.length) (kk : V G y b (pc + 3) L S (va_up h (k + 2) (ci, .inl (fs.set j v))) Q) : V G y b pc L (v :: .ref (k + 2) :: S) h Q :=
  fun p e s m args below meth c H locs ls C c1 c2 hP hS hlv => by
    obtain ⟨r, h1, cell, q1, q2, q3, q4⟩ := hP.at hc hci
    have hr : r = (C0, T, N) := Option.some.inj (h1.symm.trans hcl)
    subst hr
    obtain ⟨hSl, hfc, kC, hkC, hkind⟩ := C.kt.1.1 ci _ hcl
    obtain ⟨cf, kf, fi, f, hi, hsl⟩ := hSl j hj
    have hlay := C.ts (gw_cls hcl _ (u_in_lay hj))
    unfold u_lay at hlay
    rw [if_neg (by rw [hfin]; decide)] at hlay
    have hst := (u_facts hfc hkC (u_lays C.2.2.2.2.2.1 (fun w hh => List.mem_cons_of_mem _ (gw_cls hcl w hh)) hj) hi).1
    have h6 := u_store hfc hkC hkind hlay hi hty hn hfit
    refine W.putK C.1 C.2.1 (f := f) ⟨C.own, C.ts hw, ⟨_, _, _, hi⟩, hst⟩ (by rw [q2]; exact h6) q1 q3 (by rw [hsl]; exact k2_hasslot (q4 j hj)) rfl rfl hd fun H' e1 e2 e3 => ?_
    rw [hsl] at e1 ⊢
    exact kk p e s m args below meth c H' _ ls C c1 c2 (hP.set hc hci (put_at C.2.2.2.2.2.1 (fun w hh => List.mem_cons_of_mem _ hh) C.kt hcl hj hl q2 q3 q4 e1) e2 e3) (hS.put e2 e3 (Nat.le_add_right _ _)) hlv
theorem V_putN {k ci j index N : Nat} {fs : List Value} {v : Value} {C0 host : String} {T : u_T} {ty : FieldType} (hd : decode y.2.1 pc = .ok (.putfield index, 3)) (hcl : vwCl[ci]? = some (C0, T, N)) (hc : h (k + 2) = (ci, .inl fs)) (hci : ci < 100) (hj : j < N) (hw : Cond.fieldLinkNest y.1.cls index (T j).1 (T j).2.1 (T j).2.2.1 host ∈ nw) (hfin : (T j).2.2.2 = false) (hty : parseFieldDescriptor (T j).2.2.1 = some ty) (hn : narrow ty (cv G v) = cv G v) (hfit : fits ty (cv G v) = true) (hl : j < fs.length) (kk : V G y b (pc + 3) L S (va_up h (k + 2) (ci, .inl (fs.set j v))) Q) : V G y b pc L (v :: .ref (k + 2) :: S) h Q :=
  fun p e s m args below meth c H locs ls C c1 c2 hP hS hlv => by
    obtain ⟨r, h1, cell, q1, q2, q3, q4⟩ := hP.at hc hci
    have hr : r = (C0, T, N) := Option.some.inj (h1.symm.trans hcl)
    subst hr
    obtain ⟨hSl, hfc, kC, hkC, hkind⟩ := C.kt.1.1 ci _ hcl
    obtain ⟨cf, kf, fi, f, hi, hsl⟩ := hSl j hj
    have hlay := C.ts (gw_cls hcl _ (u_in_lay hj))
    unfold u_lay at hlay
    rw [if_neg (by rw [hfin]; decide)] at hlay
    have hst := (u_facts hfc hkC (u_lays C.2.2.2.2.2.1 (fun w hh => List.mem_cons_of_mem _ (gw_cls hcl w hh)) hj) hi).1
    have h6 := u_store hfc hkC hkind hlay hi hty hn hfit
    refine va_WputK C.1 C.2.1 (f := f) C.own (C.nt hw) hi hst (by rw [q2]; exact h6) q1 q3 (by rw [hsl]; exact k2_hasslot (q4 j hj)) rfl rfl hd fun H' e1 e2 e3 => ?_
    rw [hsl] at e1 ⊢
    exact kk p e s m args below meth c H' _ ls C c1 c2 (hP.set hc hci (put_at C.2.2.2.2.2.1 (fun w hh => List.mem_cons_of_mem _ hh) C.kt hcl hj hl q2 q3 q4 e1) e2 e3) (hS.put e2 e3 (Nat.le_add_right _ _)) hlv
theorem V_putF {k ci j index N : Nat} {fs : List Value} {v : Value} {C0 : String} {T : u_T} {ty : FieldType} (hd : decode y.2.1 pc = .ok (.putfield index, 3)) (hcl : vwCl[ci]? = some (C0, T, N)) (hc : h (k + 2) = (ci, .inl fs)) (hci : ci < 100) (hj : j < N) (hw : Cond.fieldLink y.1.cls index (T j).1 (T j).2.1 (T j).2.2.1 ∈ gw) (hfin : (T j).2.2.2 = true) (hin2 : y.1.name = "<init>") (hdecl : (T j).1 = y.1.cls) (hty : parseFieldDescriptor (T j).2.2.1 = some ty) (hn : narrow ty (cv G v) = cv G v) (hfit : fits ty (cv G v) = true) (hl : j < fs.length) (kk : V G y b (pc + 3) L S (va_up h (k + 2) (ci, .inl (fs.set j v))) Q) : V G y b pc L (v :: .ref (k + 2) :: S) h Q :=
  fun p e s m args below meth c H locs ls C c1 c2 hP hS hlv => by
    obtain ⟨r, h1, cell, q1, q2, q3, q4⟩ := hP.at hc hci
    have hr : r = (C0, T, N) := Option.some.inj (h1.symm.trans hcl)
    subst hr
    obtain ⟨hSl, hfc, kC, hkC, hkind⟩ := C.kt.1.1 ci _ hcl
    obtain ⟨cf, kf, fi, f, hi, hsl⟩ := hSl j hj
    have hlay := C.ts (gw_cls hcl _ (u_in_lay hj))
    unfold u_lay at hlay
    rw [if_pos hfin] at hlay
    have hst := (u_facts hfc hkC (u_lays C.2.2.2.2.2.1 (fun w hh => List.mem_cons_of_mem _ (gw_cls hcl w hh)) hj) hi).1
    have hcf : m.cls = cf := by
      obtain ⟨_, _, c', _, _, _, -, -, hf', -, -, -, hown2, -⟩ := Cond.laysFinal_spec hlay
      have e1 : c' = cf := by have := hi.symm.trans hf'; simp at this; exact this.1.symm
      rw [hdecl] at hown2
      rw [← e1]; exact Option.some.inj (C.own.symm.trans hown2)
    have h6 := u_fits hfc hkC hkind (Or.inr hlay) hi hty hn hfit
    refine W.putFinK C.1 C.2.1 C.own (C.ts hw) hi hst hcf (C.2.2.2.2.2.2.2.1.trans hin2) (by rw [q2]; exact h6) q1 q3 (by rw [hsl]; exact k2_hasslot (q4 j hj)) rfl rfl hd fun H' e1 e2 e3 => ?_
    rw [hsl] at e1 ⊢
    exact kk p e s m args below meth c H' _ ls C c1 c2 (hP.set hc hci (put_at C.2.2.2.2.2.1 (fun w hh => List.mem_cons_of_mem _ hh) C.kt hcl hj hl q2 q3 q4 e1) e2 e3) (hS.put e2 e3 (Nat.le_add_right _ _)) hlv
theorem V_iald {k n : Nat} {f : Nat → Int32} {i : Int32} (hd : decode y.2.1 pc = .ok (.iaload, 1)) (hc : h (k + 2) = (0, .inr (n, .inl f))) (hin : vp_in i n) (kk : V G y b (pc + 1) L (.int (f i.toNatClampNeg) :: S) h Q) : V G y b pc L (.int i :: .ref (k + 2) :: S) h Q :=
  fun p e s m args below meth c H locs ls C c1 c2 hP hS hl => va_iald C.1 C.2.1 C.kt.1 hP.1 k 0 (hP.el hc (by show 0 < 100; decide)) rfl hin hd (kk p e s m args below meth c H locs ls C c1 c2 hP hS hl)
theorem V_bald {k n : Nat} {f : Nat → Int32} {i : Int32} (hd : decode y.2.1 pc = .ok (.baload, 1)) (hc : h (k + 2) = (1, .inr (n, .inl f))) (hin : vp_in i n) (kk : V G y b (pc + 1) L (.int (f i.toNatClampNeg) :: S) h Q) : V G y b pc L (.int i :: .ref (k + 2) :: S) h Q :=
  fun p e s m args below meth c H locs ls C c1 c2 hP hS hl => va_bald C.1 C.2.1 C.kt.1 hP.1 k 1 (hP.el hc (by show 1 < 100; decide)) rfl hin hd (kk p e s m args below meth c H locs ls C c1 c2 hP hS hl)
theorem V_zald {k n : Nat} {f : Nat → Int32} {i : Int32} (hd : decode y.2.1 pc = .ok (.baload, 1)) (hc : h (k + 2) = (2, .inr (n, .inl f))) (hin : vp_in i n) (kk : V G y b (pc + 1) L (.int (f i.toNatClampNeg) :: S) h Q) : V G y b pc L (.int i :: .ref (k + 2) :: S) h Q :=
  fun p e s m args below meth c H locs ls C c1 c2 hP hS hl => va_zald C.1 C.2.1 C.kt.1 hP.1 k 2 (hP.el hc (by show 2 < 100; decide)) rfl hin hd (kk p e s m args below meth c H locs ls C c1 c2 hP hS hl)
theorem V_lald {k n : Nat} {f : Nat → Int64} {i : Int32} (hd : decode y.2.1 pc = .ok (.laload, 1)) (hc : h (k + 2) = (3, .inr (n, .inr (.inl f)))) (hin : vp_in i n) (kk : V G y b (pc + 1) L (.long (f i.toNatClampNeg) :: S) h Q) : V G y b pc L (.int i :: .ref (k + 2) :: S) h Q :=
  fun p e s m args below meth c H locs ls C c1 c2 hP hS hl => va_lald C.1 C.2.1 C.kt.1 hP.1 k 3 (hP.el hc (by show 3 < 100; decide)) rfl hin hd (kk p e s m args below meth c H locs ls C c1 c2 hP hS hl)
theorem V_aald {k n r : Nat} {f : Nat → Option Nat} {i : Int32} (hd : decode y.2.1 pc = .ok (.aaload, 1)) (hc : h (k + 2) = (4, .inr (n, .inr (.inr f)))) (hin : vp_in i n) (hr : f i.toNatClampNeg = some r) (kk : V G y b (pc + 1) L (.ref r :: S) h Q) : V G y b pc L (.int i :: .ref (k + 2) :: S) h Q :=
  fun p e s m args below meth c H locs ls C c1 c2 hP hS hl => va_aldq C.1 C.2.1 C.kt.1 hP.1 k 4 (hP.el hc (by show 4 < 100; decide)) rfl hin hd (by
    rw [hr]
    exact kk p e s m args below meth c H locs ls C c1 c2 hP hS hl)
theorem V_alen {k n t : Nat} {f : (Nat → Int32) ⊕ (Nat → Int64) ⊕ (Nat → Option Nat)} (hd : decode y.2.1 pc = .ok (.arraylength, 1)) (hc : h (k + 2) = (t, .inr (n, f))) (ht : t < 5) (kk : V G y b (pc + 1) L (.int (nI n) :: S) h Q) : V G y b pc L (.ref (k + 2) :: S) h Q :=
  fun p e s m args below meth c H locs ls C c1 c2 hP hS hl => by
    have hty : ∃ ty, (g_ty G)[t]? = some (g_T G t, ty) := by
      match t, ht with
      | 0, _ => exact ⟨_, rfl⟩
      | 1, _ => exact ⟨_, rfl⟩
      | 2, _ => exact ⟨_, rfl⟩
      | 3, _ => exact ⟨_, rfl⟩
      | 4, _ => exact ⟨_, rfl⟩
    obtain ⟨ty, hty⟩ := hty
    have he := hP.el hc (by show t < 100; omega)
    obtain f | f | f := f
    · exact va_alen C.1 C.2.1 C.kt.1 hP.1 k t he hty rfl hd (kk p e s m args below meth c H locs ls C c1 c2 hP hS hl)
    · exact va_alen C.1 C.2.1 C.kt.1 hP.1 k t he hty rfl hd (kk p e s m args below meth c H locs ls C c1 c2 hP hS hl)
    · exact va_alen C.1 C.2.1 C.kt.1 hP.1 k t he hty rfl hd (kk p e s m args below meth c H locs ls C c1 c2 hP hS hl)
theorem V_iast {k n : Nat} {f : Nat → Int32} {i x : Int32} (hd : decode y.2.1 pc = .ok (.iastore, 1)) (hc : h (k + 2) = (0, .inr (n, .inl f))) (hin : vp_in i n) (kk : V G y b (pc + 1) L S (va_up h (k + 2) (0, .inr (n, .inl (upd f i.toNatClampNeg x)))) Q) : V G y b pc L (.int x :: .int i :: .ref (k + 2) :: S) h Q :=
  fun p e s m args below meth c H locs ls C c1 c2 hP hS hl => by
    refine W.iast C.1 C.2.1 (hP.at hc (by show 0 < 100; decide)) ((C.kt.1.2 0 _ rfl).1 n (fun j => .int (f j))) (fun q => by cases q) (by show ¬ (i < 0 ∨ (arrV _ _ _).slots.size ≤ _); rw [arrV_size]; exact hin) rfl rfl hd fun H1 e1 z oq => ?_
    refine kk p e s m args below meth c H1 _ ls C c1 c2 (hP.set hc (by show 0 < 100; decide) ?_ z oq) (hS.put z oq (Nat.le_add_right _ _)) hl
    show H1[g_b G + k]? = some (vp_cell _ _)
    rw [e1]
    rw [vp_cell_i, vp_cell_i, arrV_store]
    congr 2
    funext q
    by_cases hq : q = i.toNatClampNeg
    · subst hq
      simp [updV, upd]
    · simp [updV, upd, hq]
theorem V_bast {k n : Nat} {f : Nat → Int32} {i x : Int32} (hd : decode y.2.1 pc = .ok (.bastore, 1)) (hc : h (k + 2) = (1, .inr (n, .inl f))) (hin : vp_in i n) (kk : V G y b (pc + 1) L S (va_up h (k + 2) (1, .inr (n, .inl (upd f i.toNatClampNeg (vp_nar .byte x))))) Q) : V G y b pc L (.int x :: .int i :: .ref (k + 2) :: S) h Q :=
  fun p e s m args below meth c H locs ls C c1 c2 hP hS hl => by
    refine W.bast C.1 C.2.1 (hP.at hc (by show 1 < 100; decide)) ((C.kt.1.2 1 _ rfl).1 n (fun j => .int (f j))) (fun q => by cases q) (by show ¬ (i < 0 ∨ (arrV _ _ _).slots.size ≤ _); rw [arrV_size]; exact hin) rfl rfl hd fun H1 e1 z oq => ?_
    refine kk p e s m args below meth c H1 _ ls C c1 c2 (hP.set hc (by show 1 < 100; decide) ?_ z oq) (hS.put z oq (Nat.le_add_right _ _)) hl
    show H1[g_b G + k]? = some (vp_cell _ _)
    rw [e1]
    rw [vp_cell_i, vp_cell_i, arrV_store]
    congr 2
    funext q
    by_cases hq : q = i.toNatClampNeg
    · subst hq
      simp [updV, upd, vp_nar]
      try rfl
    · simp [updV, upd, hq]
theorem V_zast {k n : Nat} {f : Nat → Int32} {i x : Int32} (hd : decode y.2.1 pc = .ok (.bastore, 1)) (hc : h (k + 2) = (2, .inr (n, .inl f))) (hin : vp_in i n) (kk : V G y b (pc + 1) L S (va_up h (k + 2) (2, .inr (n, .inl (upd f i.toNatClampNeg (vp_nar .boolean x))))) Q) : V G y b pc L (.int x :: .int i :: .ref (k + 2) :: S) h Q :=
  fun p e s m args below meth c H locs ls C c1 c2 hP hS hl => by
    refine W.zast C.1 C.2.1 (hP.at hc (by show 2 < 100; decide)) ((C.kt.1.2 2 _ rfl).1 n (fun j => .int (f j))) (fun q => by cases q) (by show ¬ (i < 0 ∨ (arrV _ _ _).slots.size ≤ _); rw [arrV_size]; exact hin) rfl rfl hd fun H1 e1 z oq => ?_
    refine kk p e s m args below meth c H1 _ ls C c1 c2 (hP.set hc (by show 2 < 100; decide) ?_ z oq) (hS.put z oq (Nat.le_add_right _ _)) hl
    show H1[g_b G + k]? = some (vp_cell _ _)
    rw [e1]
    rw [vp_cell_i, vp_cell_i, arrV_store]
    congr 2
    funext q
    by_cases hq : q = i.toNatClampNeg
    · subst hq
      simp [updV, upd, vp_nar]
      try rfl
    · simp [updV, upd, hq]
theorem V_last {k n : Nat} {f : Nat → Int64} {i : Int32} {x : Int64} (hd : decode y.2.1 pc = .ok (.lastore, 1)) (hc : h (k + 2) = (3, .inr (n, .inr (.inl f)))) (hin : vp_in i n) (kk : V G y b (pc + 1) L S (va_up h (k + 2) (3, .inr (n, .inr (.inl (vp_updL f i.toNatClampNeg x))))) Q) : V G y b pc L (.long x :: .int i :: .ref (k + 2) :: S) h Q :=
  fun p e s m args below meth c H locs ls C c1 c2 hP hS hl => by
    refine W.last C.1 C.2.1 (hP.at hc (by show 3 < 100; decide)) ((C.kt.1.2 3 _ rfl).1 n (fun j => .long (f j))) (fun q => by cases q) (by show ¬ (i < 0 ∨ (arrV _ _ _).slots.size ≤ _); rw [arrV_size]; exact hin) rfl rfl hd fun H1 e1 z oq => ?_
    refine kk p e s m args below meth c H1 _ ls C c1 c2 (hP.set hc (by show 3 < 100; decide) ?_ z oq) (hS.put z oq (Nat.le_add_right _ _)) hl
    show H1[g_b G + k]? = some (vp_cell _ _)
    rw [e1]
    rw [vp_cell_l, vp_cell_l, arrV_store]
    congr 2
    funext q
    by_cases hq : q = i.toNatClampNeg
    · subst hq
      simp [updV, vp_updL]
    · simp [updV, vp_updL, hq]
/-- the script, and the table -/
theorem V_sld {i : Int32} (hd : decode y.2.1 pc = .ok (.iaload, 1)) (hin : vp_in i (g_n G)) (kk : V G y b (pc + 1) L (.int (g_x G i.toNatClampNeg) :: S) h Q) : V G y b pc L (.int i :: .ref 0 :: S) h Q :=
  fun p e s m args below meth c H locs ls C c1 c2 hP hS hl => va_sld C.1 C.2.1 C.ro.1 (Nat.lt_of_lt_of_le C.ro.2.2.2.1 C.nb) (Nat.not_le.mpr C.ro.2.2.2.1) hS hin hd (kk p e s m args below meth c H locs ls C c1 c2 hP hS hl)
theorem V_slen (hd : decode y.2.1 pc = .ok (.arraylength, 1)) (kk : V G y b (pc + 1) L (.int (nI (g_n G)) :: S) h Q) : V G y b pc L (.ref 0 :: S) h Q :=
  fun p e s m args below meth c H locs ls C c1 c2 hP hS hl => va_slen C.1 C.2.1 C.ro.1 (Nat.lt_of_lt_of_le C.ro.2.2.2.1 C.nb) (Nat.not_le.mpr C.ro.2.2.2.1) hS hd (kk p e s m args below meth c H locs ls C c1 c2 hP hS hl)
theorem V_tld {i : Int32} (hd : decode y.2.1 pc = .ok (.iaload, 1)) (hin : vp_in i 15) (kk : V G y b (pc + 1) L (.int (totF i.toNatClampNeg) :: S) h Q) : V G y b pc L (.int i :: .ref 1 :: S) h Q :=
  fun p e s m args below meth c H locs ls C c1 c2 hP hS hl => va_sld C.1 C.2.1 C.ro.2.1 (Nat.lt_of_lt_of_le C.ro.2.2.2.2 C.nb) (Nat.not_le.mpr C.ro.2.2.2.2) hS hin hd (kk p e s m args below meth c H locs ls C c1 c2 hP hS hl)
theorem V_gets {index : Nat} (hd : decode y.2.1 pc = .ok (.getstatic index, 3)) (hw : Cond.fieldLink y.1.cls index RX3 "TOTIENT" "[I" ∈ gw) (kk : V G y b (pc + 3) L (.ref 1 :: S) h Q) : V G y b pc L S h Q :=
  fun p e s m args below meth c H locs ls C c1 c2 hP hS hl => va_gets C.1 C.2.1 C.ro.2.2.1 hS C.own (C.ts hw) (fun _ z => z) hd (kk p e s m args below meth c H locs ls C c1 c2 hP hS hl)
/-! the ends -/
theorem V_iret {v : Int32} (hd : decode y.2.1 pc = .ok (.ireturn, 1)) (hr : y.2.2.2 = some .int) (kq : Q (some (.int v)) h) : V G y b pc L [.int v] h Q :=
  fun p e s m args below meth c H locs ls C c1 c2 hP hS hl => W.widen c1 c2 (W.iret (v := v) C.1 C.2.1 (C.2.2.1.trans hr) (fun t ht hW => ⟨⟨some (.int v), h, rfl, kq, by rw [ht]; exact hP⟩, hS.F ht⟩) hS.2.2 hd C.2.2.2.2.2.2.1)
theorem V_zret {v : Int32} (hd : decode y.2.1 pc = .ok (.ireturn, 1)) (hr : y.2.2.2 = some .boolean) (hv : narrow .boolean (.int v) = .int v) (kq : Q (some (.int v)) h) : V G y b pc L [.int v] h Q :=
  fun p e s m args below meth c H locs ls C c1 c2 hP hS hl => W.widen c1 c2 (W.zret (v := v) C.1 C.2.1 (C.2.2.1.trans hr) hv (fun t ht hW => ⟨⟨some (.int v), h, rfl, kq, by rw [ht]; exact hP⟩, hS.F ht⟩) hS.2.2 hd C.2.2.2.2.2.2.1)
theorem V_lret {v : Int64} (hd : decode y.2.1 pc = .ok (.lreturn, 1)) (hr : y.2.2.2 = some .long) (kq : Q (some (.long v)) h) : V G y b pc L [.long v] h Q :=
  fun p e s m args below meth c H locs ls C c1 c2 hP hS hl => W.widen c1 c2 (W.lret (v := v) C.1 C.2.1 (C.2.2.1.trans hr) (fun t ht hW => ⟨⟨some (.long v), h, rfl, kq, by rw [ht]; exact hP⟩, hS.F ht⟩) hS.2.2 hd C.2.2.2.2.2.2.1)
theorem V_vret (hd : decode y.2.1 pc = .ok (.return_, 1)) (hr : y.2.2.2 = none) (kq : Q none h) : V G y b pc L [] h Q :=
  fun p e s m args below meth c H locs ls C c1 c2 hP hS hl => W.widen c1 c2 (W.vret C.1 C.2.1 (C.2.2.1.trans hr) (fun t ht hW => ⟨⟨none, h, rfl, kq, by rw [ht]; exact hP⟩, hS.F ht⟩) hS.2.2 hd C.2.2.2.2.2.2.1)
theorem V_aret {v : Nat} (hd : decode y.2.1 pc = .ok (.areturn, 1)) (hr : y.2.2.2 = some (.array .int)) (kq : Q (some (.ref v)) h) : V G y b pc L [.ref v] h Q :=
  fun p e s m args below meth c H locs ls C c1 c2 hP hS hl => W.widen c1 c2 (W.aret (v := .ref (ad G v)) C.1 C.2.1 (C.2.2.1.trans hr) (Or.inr ⟨_, rfl⟩) (Or.inr ⟨_, rfl⟩) (fun t ht hW => ⟨⟨some (.ref v), h, rfl, kq, by rw [ht]; exact hP⟩, hS.F ht⟩) hS.2.2 hd C.2.2.2.2.2.2.1)
end HR
end
section
/-! calls, and a contract out of a walk -/
theorem Kt.moved {G : gx} {s U : State} (hW : s.WarmedH U.vm) (h : Kt G s) : Kt G U := ⟨va_K.moved hW.alike h.1, fun w hw => nw_warm hw hW (h.2 w hw)⟩
theorem Kt.same {G : gx} {u U : State} (hv : u.vm = U.vm) (h : Kt G u) : Kt G U := ⟨va_K.moved (by rw [hv]; exact Vm.Alike.refl U.vm) h.1, fun w hw => va_Nw.same (nw_tab hw) hv (h.2 w hw)⟩
theorem Ro.moved {G : gx} {s U : State} {H : Heap} (hW : s.vm.Alike U.vm) (h : Ro G s H) : Ro G U H := ⟨h.1.moved hW, h.2.1.moved hW, h.2.2.1.moved hW, h.2.2.2⟩
theorem Ro.kept {G : gx} {U : State} {H H1 : Heap} (h : Ro G U H) (hb : g_b G ≤ H.size) (hq : ∀ q : Nat, q < H.size → ¬ g_A G q → H1[q]? = H[q]?) : Ro G U H1 := ⟨h.1.kept (hq _ (Nat.lt_of_lt_of_le h.2.2.2.1 hb) (Nat.not_le.mpr h.2.2.2.1)), h.2.1.kept (hq _ (Nat.lt_of_lt_of_le h.2.2.2.2 hb) (Nat.not_le.mpr h.2.2.2.2)), h.2.2.1.kept hq, h.2.2.2⟩
theorem pc_blind (G : gx) (a : List Value) (h : ah) : FrameBlind (va_Pc (a.map (cv G)) (PU G h)) := by
  intro a U g mk q
  obtain ⟨q0, q1, q2, q3⟩ := q
  exact ⟨q0, q1, Kt.same (u := U) rfl q2, Ro.moved (Vm.Alike.refl U.vm) q3⟩
theorem lq_la (G : gx) : ∀ (a : List Value) (i : Nat), (a.all fun v => v.category == 1) = true → lq G i (a.map some) = lv_args i (a.map (cv G))
  | [], _, _ => rfl
  | v :: vs, i, h => by
    simp only [List.all_cons, Bool.and_eq_true, beq_iff_eq] at h
    show (i, cv G v) :: lq G (i + 1) (vs.map some) = (i, cv G v) :: lv_args (if (cv G v).category = 2 then i + 2 else i + 1) (vs.map (cv G))
    rw [cv_cat, h.1, if_neg (by decide), lq_la G vs (i + 1) h.2]
/-- the locals with which a method begins -/
def la : List Value → List (Option Value)
  | [] => []
  | v :: vs => match v with
    | .long x => some (.long x) :: none :: la vs
    | .double x => some (.double x) :: none :: la vs
    | v => some v :: la vs
theorem lq_la2 (G : gx) : ∀ (a : List Value) (i : Nat), lq G i (la a) = lv_args i (a.map (cv G))
  | [], _ => rfl
  | v :: vs, i => by
    cases v <;> exact congrArg (List.cons _) (lq_la2 G vs _)
theorem Ct_of {G : gx} {y : my} {d mc ms : Nat} {a : List Value} {h : ah} {Q : Option Value → ah → Prop} (hy : plainName y.1.cls = true) (ha : (lg_sl (a.map (cv G))).length ≤ y.2.2.1) (k : V G y (d, mc, ms, 0, 0) 0 (la a) [] h Q) : Ct G y d mc ms a h Q := by
  refine Met.ofW (cc := y.2.1) (maxL := y.2.2.1) (ret := y.2.2.2) hy rfl ?_
  intro p e s m args below meth c s₁ B hml hv
  obtain ⟨rfl, hH, hK, hR⟩ := hv
  have hl := lv_entry (a.map (cv G)) (n := y.2.2.1) ha
  rw [lg_entry_eq]
  generalize (lg_sl (a.map (cv G)) ++ List.replicate (y.2.2.1 - (lg_sl (a.map (cv G))).length) Slot.unset).toArray = ls at hl ⊢
  rw [← lq_la2 G a 0] at hl
  exact k p e s m _ below meth c s.heap [] ls ⟨B.exec, B.bytes, B.returns, hml, findClass_of_methodNamed B.named, atoms_spec (ws := w_s y) B.pre, B.notSynchronized, (name_of_methodNamed B.named B.method).1, hK, hR, by rw [hH.2.2]; exact Nat.le_add_right _ _⟩ (Nat.zero_le _) (Nat.zero_le _) hH va_S.rf hl
theorem Ct.mono {G : gx} {y : my} {d mc ms : Nat} {a : List Value} {h : ah} {Q Q2 : Option Value → ah → Prop} (hc : Ct G y d mc ms a h Q) (hq : ∀ r h', Q r h' → Q2 r h') : Ct G y d mc ms a h Q2 := by
  intro p e ha hc2 hk s m args below hf happ hP hZ
  obtain ⟨t, o, h1, h2, h3, ⟨⟨r, h', e1, e2, e3⟩, hF⟩, hL⟩ := hc p e ha hc2 hk s m args below hf happ hP hZ
  exact ⟨t, o, h1, h2, h3, ⟨⟨r, h', e1, hq _ _ e2, e3⟩, hF⟩, hL⟩
theorem lo_step {d d' maxL : Nat} (h : d' < d) (hd : d ≤ 9) (hm : maxL ≤ 14) : 8 + (maxL + 11) + r_lo d' ≤ r_lo d := by
  unfold r_lo
  split <;> split <;> omega
theorem ws_in {y y' : my} (hw : Cond.code y'.1 y'.2.1 y'.2.2.1 y'.2.2.2 ∈ gw) : GoodIn (w_s y) (w_s y') := by
  intro w h
  rcases List.mem_cons.mp h with rfl | h
  · exact ⟨List.mem_cons_of_mem _ hw, gw_good hw⟩
  · exact ⟨List.mem_cons_of_mem _ h, gw_good h⟩
theorem Hp.recv {G : gx} {h : ah} {H : Heap} (hP : Hp G h H) {s : State} (hK : Kt G s) {k ci N : Nat} {fs : List Value} {C0 : String} {T : u_T} (hc : h (k + 2) = (ci, .inl fs)) (hci : ci < 100) (hcl : vwCl[ci]? = some (C0, T, N)) : ∃ cell : Cell, H[g_b G + k]? = some cell ∧ cell.vm.isStatics = false ∧ s.vm.findClass C0 = some cell.cls :=
  va_recv (q := (C0, T, N)) hK.1 hP.1 hcl (hP.el hc hci)
theorem U_pre {G : gx} {h : ah} {H : Heap} {s U : State} {locs : List Loc} {a : List Value} (hP : Hp G h H) (hK : Kt G s) (hR : Ro G s s.heap) (hb : g_b G ≤ s.heap.size) (hS : va_S (g_A G) s.heap H locs) (hU : U.heap = H) (hW : s.WarmedH U.vm) : va_Pc (a.map (cv G)) (PU G h) (a.map (cv G)).toArray U :=
  ⟨rfl, by rw [hU]; exact hP, hK.moved hW, by rw [hU]; exact (Ro.kept hR hb hS.2.1).moved hW.alike⟩
section CR
variable {G : gx} {y y' : my} {d mc ms cc zz pc d' mc' ms' : Nat} {L : List (Option Value)} {S S0 : List Value} {h : ah} {Q Q' : Option Value → ah → Prop}
theorem V_run {p : Program} {e : Env} {s : State} {m : MethodId} {args : Array Value} {below : List Frame} {meth : Method} {c : Code} {H : Heap} {locs : List Loc} {ls : Array Slot} {a : Array Value}
    (hr : va_Run p (g_l G) e (r_m d mc ms) s m args below meth c H locs cc zz mc' ms' (F0 m pc ls (S0.map (cv G))) (S.map (cv G)) (Qm G Q' a) (g_A G)) (hS : va_S (g_A G) s.heap H locs)
    (kk : ∀ (r : Option Value) (h' : ah) (H1 : Heap) (locs1 : List Loc), Q' r h' → Hp G h' H1 → va_S (g_A G) s.heap H1 locs1 → W p (g_l G) e (r_m d mc ms) s m args below meth c H1 locs1 (cc + mc') (zz + ms') (MQ below (Qm G Q) args s mc ms (g_A G)) (F0 m (pc + 3) ls ((r.toList ++ S).map (cv G)))) :
    W p (g_l G) e (r_m d mc ms) s m args below meth c H locs cc zz (MQ below (Qm G Q) args s mc ms (g_A G)) (F0 m pc ls (S0.map (cv G))) := by
  intro T hT X
  obtain ⟨v, st₀, t, T', L, h0, X', hL, e1, e2, ⟨⟨r, h', hv, hq, hp⟩, hz, hk⟩, st⟩ := hr T hT X
  cases hv
  rw [h0] at hz hk
  obtain ⟨t2, a1, b1⟩ := kk r h' T'.heap (locs ++ L) hq (by rw [e1]; exact hp)
    ⟨Nat.le_trans hS.1 (by rw [e1]; exact hz), fun q h1 h2 => by rw [e1, hk q (Nat.lt_of_lt_of_le h1 hS.1) h2]; exact hS.2.1 q h1 h2, fun q hq => by
      rcases List.mem_append.mp hq with h | h
      · exact hS.2.2 q h
      · exact hL q h⟩ T' rfl X'
  refine ⟨t2, st t2 ?_, b1⟩
  cases r <;> exact a1
/-- words and numbers of a call of y' -/
def Cw (y y' : my) (index n d' : Nat) : Prop := Cond.code y'.1 y'.2.1 y'.2.2.1 y'.2.2.2 ∈ gw ∧ Cond.initialized y'.1.cls ∈ gw ∧ (y'.1.cls ≠ "java/lang/invoke/MethodHandle" ∧ y'.1.cls ≠ "java/lang/invoke/VarHandle" ∧ (parseMethodDescriptor y'.1.desc).map (fun d => d.parameters.length) = some n) ∧ y'.2.2.1 ≤ 14
theorem V_callV {k ci index n N : Nat} {fs As : List Value} {T : u_T} (hM : Ct G y' d' mc' ms' (.ref (k + 2) :: As) h Q') (hd : decode y.2.1 pc = .ok (.invokevirtual index, 3)) (hw : Cond.methodLink y.1.cls index y'.1 ∈ gw ∧ Cond.instanceMethod y'.1 ∈ gw ∧ Cond.selects y'.1.cls y'.1 y'.1 ∈ gw) (cw : Cw y y' index n d') (hcl : vwCl[ci]? = some (y'.1.cls, T, N)) (hc : h (k + 2) = (ci, .inl fs)) (hci : ci < 100) (hdd : d' < d ∧ d ≤ 9) (hn : As.length = n) (hst : S0 = As.reverse ++ .ref (k + 2) :: S) (hrm : (S.map fun v => v.category).sum ≤ 8) (hf : cc + mc' ≤ mc ∧ zz + ms' ≤ ms)
    (kk : ∀ r h', Q' r h' → V G y (d, mc, ms, cc + mc', zz + ms') (pc + 3) L (r.toList ++ S) h' Q) : V G y (d, mc, ms, cc, zz) pc L S0 h Q :=
  fun p e s m args below meth c H locs ls C c1 c2 hP hS hl => by
    refine V_run (va_runV (As := As.map (cv G)) ⟨C.1, C.2.1, C.2.2.2.1, C.own, C.2.2.2.2.2.1⟩ hM ⟨callB_of n C.2.2.2.2.2.1 (ws_in cw.1) rfl rfl rfl (C.ts cw.2.1) (C.ts hw.1) cw.2.2.1 ⟨hdd.1, lo_step hdd.1 hdd.2 cw.2.2.2⟩, C.ts hw.2.1, C.ts hw.2.2⟩ ⟨pc_blind G _ h, hP.recv C.kt hc hci hcl, fun U hU hW => U_pre (a := .ref (k + 2) :: As) hP C.kt C.ro C.nb hS hU hW⟩ rfl (by rw [List.length_map]; exact hn) hl.1 ?_ ?_ hd hf) hS (fun r h' H1 locs1 hq hp hs => kk r h' hq p e s m args below meth c H1 locs1 ls C hf.1 hf.2 hp hs hl)
    · show S0.map (cv G) = _
      rw [hst, List.map_append, List.map_reverse]
      rfl
    · refine lv_room ?_
      rw [List.map_map]
      exact Nat.le_trans (Nat.le_of_eq (congrArg List.sum (List.map_congr_left (fun v _ => cv_cat G v)))) hrm
theorem V_callVN {k ci index n N : Nat} {fs As : List Value} {T : u_T} {host : String} (hM : Ct G y' d' mc' ms' (.ref (k + 2) :: As) h Q') (hd : decode y.2.1 pc = .ok (.invokevirtual index, 3)) (hw : Cond.methodLinkNest y.1.cls index y'.1 host ∈ nw ∧ Cond.instanceMethod y'.1 ∈ gw ∧ Cond.selects y'.1.cls y'.1 y'.1 ∈ gw) (cw : Cw y y' index n d') (hcl : vwCl[ci]? = some (y'.1.cls, T, N)) (hc : h (k + 2) = (ci, .inl fs)) (hci : ci < 100) (hdd : d' < d ∧ d ≤ 9) (hn : As.length = n) (hst : S0 = As.reverse ++ .ref (k + 2) :: S) (hrm : (S.map fun v => v.category).sum ≤ 8) (hf : cc + mc' ≤ mc ∧ zz + ms' ≤ ms)
    (kk : ∀ r h', Q' r h' → V G y (d, mc, ms, cc + mc', zz + ms') (pc + 3) L (r.toList ++ S) h' Q) : V G y (d, mc, ms, cc, zz) pc L S0 h Q :=
  fun p e s m args below meth c H locs ls C c1 c2 hP hS hl => by
    refine V_run (va_runVN (As := As.map (cv G)) ⟨C.1, C.2.1, C.2.2.2.1, C.own, C.2.2.2.2.2.1⟩ hM ⟨va_cnB n C.2.2.2.2.2.1 (ws_in cw.1) rfl rfl rfl (C.kt.2 _ hw.1) (C.ts cw.2.1) cw.2.2.1 ⟨hdd.1, lo_step hdd.1 hdd.2 cw.2.2.2⟩, C.ts hw.2.1, C.ts hw.2.2⟩ ⟨pc_blind G _ h, hP.recv C.kt hc hci hcl, fun U hU hW => U_pre (a := .ref (k + 2) :: As) hP C.kt C.ro C.nb hS hU hW⟩ rfl (by rw [List.length_map]; exact hn) hl.1 ?_ ?_ hd hf) hS (fun r h' H1 locs1 hq hp hs => kk r h' hq p e s m args below meth c H1 locs1 ls C hf.1 hf.2 hp hs hl)
    · show S0.map (cv G) = _
      rw [hst, List.map_append, List.map_reverse]
      rfl
    · refine lv_room ?_
      rw [List.map_map]
      exact Nat.le_trans (Nat.le_of_eq (congrArg List.sum (List.map_congr_left (fun v _ => cv_cat G v)))) hrm
theorem V_callS {index n : Nat} {As : List Value} (hM : Ct G y' d' mc' ms' As h Q') (hd : decode y.2.1 pc = .ok (.invokestatic index, 3)) (hw : Cond.methodLink y.1.cls index y'.1 ∈ gw ∧ Cond.static y'.1 ∈ gw) (cw : Cw y y' index n d') (hdd : d' < d ∧ d ≤ 9) (hn : As.length = n) (hst : S0 = As.reverse ++ S) (hrm : (S.map fun v => v.category).sum ≤ 8) (hf : cc + mc' ≤ mc ∧ zz + ms' ≤ ms)
    (kk : ∀ r h', Q' r h' → V G y (d, mc, ms, cc + mc', zz + ms') (pc + 3) L (r.toList ++ S) h' Q) : V G y (d, mc, ms, cc, zz) pc L S0 h Q :=
  fun p e s m args below meth c H locs ls C c1 c2 hP hS hl => by
    refine V_run (va_runS (As := As.map (cv G)) ⟨C.1, C.2.1, C.2.2.2.1, C.own, C.2.2.2.2.2.1⟩ hM ⟨callB_of n C.2.2.2.2.2.1 (ws_in cw.1) rfl rfl rfl (C.ts cw.2.1) (C.ts hw.1) cw.2.2.1 ⟨hdd.1, lo_step hdd.1 hdd.2 cw.2.2.2⟩, C.ts hw.2⟩ ⟨pc_blind G _ h, fun U hU hW => U_pre (a := As) hP C.kt C.ro C.nb hS hU hW⟩ rfl (by rw [List.length_map]; exact hn) hl.1 ?_ ?_ hd hf) hS (fun r h' H1 locs1 hq hp hs => kk r h' hq p e s m args below meth c H1 locs1 ls C hf.1 hf.2 hp hs hl)
    · show S0.map (cv G) = _
      rw [hst, List.map_append, List.map_reverse]
    · refine lv_room ?_
      rw [List.map_map]
      exact Nat.le_trans (Nat.le_of_eq (congrArg List.sum (List.map_congr_left (fun v _ => cv_cat G v)))) hrm
theorem V_callSN {index n : Nat} {As : List Value} {host : String} (hM : Ct G y' d' mc' ms' As h Q') (hd : decode y.2.1 pc = .ok (.invokestatic index, 3)) (hw : Cond.methodLinkNest y.1.cls index y'.1 host ∈ nw ∧ Cond.static y'.1 ∈ gw) (cw : Cw y y' index n d') (hdd : d' < d ∧ d ≤ 9) (hn : As.length = n) (hst : S0 = As.reverse ++ S) (hrm : (S.map fun v => v.category).sum ≤ 8) (hf : cc + mc' ≤ mc ∧ zz + ms' ≤ ms)
    (kk : ∀ r h', Q' r h' → V G y (d, mc, ms, cc + mc', zz + ms') (pc + 3) L (r.toList ++ S) h' Q) : V G y (d, mc, ms, cc, zz) pc L S0 h Q :=
  fun p e s m args below meth c H locs ls C c1 c2 hP hS hl => by
    refine V_run (va_runSN (As := As.map (cv G)) ⟨C.1, C.2.1, C.2.2.2.1, C.own, C.2.2.2.2.2.1⟩ hM ⟨va_cnB n C.2.2.2.2.2.1 (ws_in cw.1) rfl rfl rfl (C.kt.2 _ hw.1) (C.ts cw.2.1) cw.2.2.1 ⟨hdd.1, lo_step hdd.1 hdd.2 cw.2.2.2⟩, C.ts hw.2, trivial⟩ ⟨pc_blind G _ h, fun U hU hW => U_pre (a := As) hP C.kt C.ro C.nb hS hU hW⟩ rfl (by rw [List.length_map]; exact hn) hl.1 ?_ ?_ hd hf) hS (fun r h' H1 locs1 hq hp hs => kk r h' hq p e s m args below meth c H1 locs1 ls C hf.1 hf.2 hp hs hl)
    · show S0.map (cv G) = _
      rw [hst, List.map_append, List.map_reverse]
    · refine lv_room ?_
      rw [List.map_map]
      exact Nat.le_trans (Nat.le_of_eq (congrArg List.sum (List.map_congr_left (fun v _ => cv_cat G v)))) hrm
/-- fewer locals; the same by another name -/
theorem V_eq {b : bg} {pc2 : Nat} {L2 : List (Option Value)} {S2 : List Value} {h2 : ah} (h1 : pc = pc2) (hL : L = L2) (hS : S = S2) (hh : h = h2) (k : V G y b pc2 L2 S2 h2 Q) : V G y b pc L S h Q := by
  subst h1; subst hL; subst hS; subst hh; exact k
def sb : List (Option Value) → List (Option Value) → Prop
  | [], _ => True
  | none :: r, s => sb r s.tail
  | some v :: r, s => s.head? = some (some v) ∧ sb r s.tail
theorem lq_sb (G : gx) : ∀ (L' L : List (Option Value)) (j : Nat) (q : Nat × Value), sb L' L → q ∈ lq G j L' → q ∈ lq G j L
  | [], _, _, _, _, h => by simp [lq] at h
  | none :: r, L, j, q, hs, h => lq_tail G (lq_sb G r L.tail (j + 1) q hs h)
  | some v :: r, L, j, q, hs, h => by
    match L, hs with
    | [], hs => cases hs.1
    | x :: s, hs =>
      have hx : x = some v := by have := hs.1; simpa using this
      subst hx
      rcases List.mem_cons.mp (show q ∈ (j, cv G v) :: lq G (j + 1) r from h) with rfl | h
      · exact List.mem_cons_self
      · exact List.mem_cons_of_mem _ (lq_sb G r s (j + 1) q hs.2 h)
theorem V_sub {b : bg} {L' : List (Option Value)} (hs : sb L' L) (k : V G y b pc L' S h Q) : V G y b pc L S h Q :=
  fun p e s m args below meth c H locs ls C c1 c2 hP hS hl => k p e s m args below meth c H locs ls C c1 c2 hP hS ⟨hl.1, hl.2.1, fun q hq => hl.2.2 q (lq_sb G L' L 0 q hs hq)⟩
theorem V_mono {b : bg} {Q2 : Option Value → ah → Prop} (hq : ∀ r h', Q r h' → Q2 r h') (k : V G y b pc L S h Q) : V G y b pc L S h Q2 :=
  fun p e s m args below meth c H locs ls C c1 c2 hP hS hl T hT X => by
    obtain ⟨t, a1, o, b1, b2, ⟨⟨r, h', e1, e2, e3⟩, hF⟩, hL⟩ := k p e s m args below meth c H locs ls C c1 c2 hP hS hl T hT X
    exact ⟨t, a1, o, b1, b2, ⟨⟨r, h', e1, hq _ _ e2, e3⟩, hF⟩, hL⟩
end CR
end
