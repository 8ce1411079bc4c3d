/-! trees of the law -/
theorem tL_law_18 {G : gx} {b : bg} {h : ah} {Q : Option Value → ah → Prop} {x3 : Int32} (q1 : (((nI (g_n G)) - (6 : Int32)) < x3) → Q (some (.int (1 : Int32))) h) (q2 : (¬ ((nI (g_n G)) - (6 : Int32)) < x3) → vp_in x3 (g_n G)) (q3 : (¬ ((nI (g_n G)) - (6 : Int32)) < x3) → V G mL_law b 33 [some (.ref 0), some (.ref 2), some (.ref 42), some (.int x3)] [.int ((g_x G x3.toNatClampNeg) &&& (63 : Int32))] h Q) : V G mL_law b 18 [some (.ref 0), some (.ref 2), some (.ref 42), some (.int x3)] [] h Q := by
  refine V_iload_n dL_law_18 rfl rfl ?_
  refine V_aload_n dL_law_19 rfl rfl ?_
  refine V_slen dL_law_20 ?_
  refine V_bipush dL_law_21 bp_6 ?_
  refine V_isub dL_law_23 ?_
  refine V_icmp_gt (t := 1335) dL_law_24 (by decide) (fun z1 => ?_) (fun z1 => ?_)
  ·
    refine V_iconst dL_law_1335 ic_1 ?_
    exact V_zret dL_law_1336 rfl rfl (q1 z1)
  ·
    refine V_aload_n dL_law_27 rfl rfl ?_
    refine V_iload_n dL_law_28 rfl rfl ?_
    refine V_sld dL_law_29 (q2 z1) ?_
    refine V_bipush dL_law_30 bp_63 ?_
    refine V_iand dL_law_32 ?_
    exact V_sub (by exact (And.intro rfl (And.intro rfl (And.intro rfl (And.intro rfl True.intro))))) (q3 z1)
theorem tL_law_208 {G : gx} {b : bg} {h : ah} {Q : Option Value → ah → Prop} {x3 : Int32} (q1 : vp_in (x3 + (1 : Int32)) (g_n G)) (q2 : vp_in (x3 + (2 : Int32)) (g_n G)) (q3 : V G mL_law b 219 [some (.ref 0), some (.ref 2), some (.ref 42), some (.int x3)] [.int (g_x G (x3 + (2 : Int32)).toNatClampNeg), .int (g_x G (x3 + (1 : Int32)).toNatClampNeg), .ref 2] h Q) : V G mL_law b 208 [some (.ref 0), some (.ref 2), some (.ref 42), some (.int x3)] [] h Q := by
  refine V_aload_n dL_law_208 rfl rfl ?_
  refine V_aload_n dL_law_209 rfl rfl ?_
  refine V_iload_n dL_law_210 rfl rfl ?_
  refine V_iconst dL_law_211 ic_1 ?_
  refine V_iadd dL_law_212 ?_
  refine V_sld dL_law_213 (q1) ?_
  refine V_aload_n dL_law_214 rfl rfl ?_
  refine V_iload_n dL_law_215 rfl rfl ?_
  refine V_iconst dL_law_216 ic_2 ?_
  refine V_iadd dL_law_217 ?_
  refine V_sld dL_law_218 (q2) ?_
  exact V_sub (by exact (And.intro rfl (And.intro rfl (And.intro rfl (And.intro rfl True.intro))))) (q3)
theorem tL_law_241 {G : gx} {b : bg} {h : ah} {Q : Option Value → ah → Prop} {x3 : Int32} (q1 : vp_in (x3 + (1 : Int32)) (g_n G)) (q2 : vp_in (x3 + (2 : Int32)) (g_n G)) (q3 : V G mL_law b 252 [some (.ref 0), some (.ref 2), some (.ref 42), some (.int x3)] [.int (g_x G (x3 + (2 : Int32)).toNatClampNeg), .int (g_x G (x3 + (1 : Int32)).toNatClampNeg), .ref 2] h Q) : V G mL_law b 241 [some (.ref 0), some (.ref 2), some (.ref 42), some (.int x3)] [] h Q := by
  refine V_aload_n dL_law_241 rfl rfl ?_
  refine V_aload_n dL_law_242 rfl rfl ?_
  refine V_iload_n dL_law_243 rfl rfl ?_
  refine V_iconst dL_law_244 ic_1 ?_
  refine V_iadd dL_law_245 ?_
  refine V_sld dL_law_246 (q1) ?_
  refine V_aload_n dL_law_247 rfl rfl ?_
  refine V_iload_n dL_law_248 rfl rfl ?_
  refine V_iconst dL_law_249 ic_2 ?_
  refine V_iadd dL_law_250 ?_
  refine V_sld dL_law_251 (q2) ?_
  exact V_sub (by exact (And.intro rfl (And.intro rfl (And.intro rfl (And.intro rfl True.intro))))) (q3)
theorem tL_law_274 {G : gx} {b : bg} {h : ah} {Q : Option Value → ah → Prop} {x3 : Int32} (q1 : vp_in (x3 + (1 : Int32)) (g_n G)) (q2 : V G mL_law b 280 [some (.ref 0), some (.ref 2), some (.ref 42), some (.int x3)] [.int (g_x G (x3 + (1 : Int32)).toNatClampNeg), .ref 2] h Q) : V G mL_law b 274 [some (.ref 0), some (.ref 2), some (.ref 42), some (.int x3)] [] h Q := by
  refine V_aload_n dL_law_274 rfl rfl ?_
  refine V_aload_n dL_law_275 rfl rfl ?_
  refine V_iload_n dL_law_276 rfl rfl ?_
  refine V_iconst dL_law_277 ic_1 ?_
  refine V_iadd dL_law_278 ?_
  refine V_sld dL_law_279 (q1) ?_
  exact V_sub (by exact (And.intro rfl (And.intro rfl (And.intro rfl (And.intro rfl True.intro))))) (q2)
theorem tL_law_297 {G : gx} {b : bg} {h : ah} {Q : Option Value → ah → Prop} {x3 : Int32} (q1 : vp_in (x3 + (1 : Int32)) (g_n G)) (q2 : V G mL_law b 303 [some (.ref 0), some (.ref 2), some (.ref 42), some (.int x3)] [.int (g_x G (x3 + (1 : Int32)).toNatClampNeg), .ref 2] h Q) : V G mL_law b 297 [some (.ref 0), some (.ref 2), some (.ref 42), some (.int x3)] [] h Q := by
  refine V_aload_n dL_law_297 rfl rfl ?_
  refine V_aload_n dL_law_298 rfl rfl ?_
  refine V_iload_n dL_law_299 rfl rfl ?_
  refine V_iconst dL_law_300 ic_1 ?_
  refine V_iadd dL_law_301 ?_
  refine V_sld dL_law_302 (q1) ?_
  exact V_sub (by exact (And.intro rfl (And.intro rfl (And.intro rfl (And.intro rfl True.intro))))) (q2)
theorem tL_law_320 {G : gx} {b : bg} {h : ah} {Q : Option Value → ah → Prop} {x3 : Int32} (q1 : vp_in (x3 + (1 : Int32)) (g_n G)) (q2 : V G mL_law b 326 [some (.ref 0), some (.ref 2), some (.ref 42), some (.int x3)] [.int (g_x G (x3 + (1 : Int32)).toNatClampNeg), .ref 2] h Q) : V G mL_law b 320 [some (.ref 0), some (.ref 2), some (.ref 42), some (.int x3)] [] h Q := by
  refine V_aload_n dL_law_320 rfl rfl ?_
  refine V_aload_n dL_law_321 rfl rfl ?_
  refine V_iload_n dL_law_322 rfl rfl ?_
  refine V_iconst dL_law_323 ic_1 ?_
  refine V_iadd dL_law_324 ?_
  refine V_sld dL_law_325 (q1) ?_
  exact V_sub (by exact (And.intro rfl (And.intro rfl (And.intro rfl (And.intro rfl True.intro))))) (q2)
theorem tL_law_343 {G : gx} {b : bg} {h : ah} {Q : Option Value → ah → Prop} {x3 : Int32} (q1 : vp_in (x3 + (1 : Int32)) (g_n G)) (q2 : V G mL_law b 349 [some (.ref 0), some (.ref 2), some (.ref 42), some (.int x3)] [.int (g_x G (x3 + (1 : Int32)).toNatClampNeg), .ref 2] h Q) : V G mL_law b 343 [some (.ref 0), some (.ref 2), some (.ref 42), some (.int x3)] [] h Q := by
  refine V_aload_n dL_law_343 rfl rfl ?_
  refine V_aload_n dL_law_344 rfl rfl ?_
  refine V_iload_n dL_law_345 rfl rfl ?_
  refine V_iconst dL_law_346 ic_1 ?_
  refine V_iadd dL_law_347 ?_
  refine V_sld dL_law_348 (q1) ?_
  exact V_sub (by exact (And.intro rfl (And.intro rfl (And.intro rfl (And.intro rfl True.intro))))) (q2)
theorem tL_law_366 {G : gx} {b : bg} {h : ah} {Q : Option Value → ah → Prop} {x3 : Int32} (q1 : V G mL_law b 367 [some (.ref 0), some (.ref 2), some (.ref 42), some (.int x3)] [.ref 2] h Q) : V G mL_law b 366 [some (.ref 0), some (.ref 2), some (.ref 42), some (.int x3)] [] h Q := by
  refine V_aload_n dL_law_366 rfl rfl ?_
  exact V_sub (by exact (And.intro rfl (And.intro rfl (And.intro rfl (And.intro rfl True.intro))))) (q1)
theorem tL_law_379 {G : gx} {b : bg} {h : ah} {Q : Option Value → ah → Prop} {x3 : Int32} (q1 : vp_in (x3 + (1 : Int32)) (g_n G)) (q2 : V G mL_law b 385 [some (.ref 0), some (.ref 2), some (.ref 42), some (.int x3)] [.int (g_x G (x3 + (1 : Int32)).toNatClampNeg), .ref 2] h Q) : V G mL_law b 379 [some (.ref 0), some (.ref 2), some (.ref 42), some (.int x3)] [] h Q := by
  refine V_aload_n dL_law_379 rfl rfl ?_
  refine V_aload_n dL_law_380 rfl rfl ?_
  refine V_iload_n dL_law_381 rfl rfl ?_
  refine V_iconst dL_law_382 ic_1 ?_
  refine V_iadd dL_law_383 ?_
  refine V_sld dL_law_384 (q1) ?_
  exact V_sub (by exact (And.intro rfl (And.intro rfl (And.intro rfl (And.intro rfl True.intro))))) (q2)
theorem tL_law_402 {G : gx} {b : bg} {h : ah} {Q : Option Value → ah → Prop} {x3 : Int32} (q1 : vp_in (x3 + (1 : Int32)) (g_n G)) (q2 : V G mL_law b 408 [some (.ref 0), some (.ref 2), some (.ref 42), some (.int x3)] [.int (g_x G (x3 + (1 : Int32)).toNatClampNeg), .ref 2] h Q) : V G mL_law b 402 [some (.ref 0), some (.ref 2), some (.ref 42), some (.int x3)] [] h Q := by
  refine V_aload_n dL_law_402 rfl rfl ?_
  refine V_aload_n dL_law_403 rfl rfl ?_
  refine V_iload_n dL_law_404 rfl rfl ?_
  refine V_iconst dL_law_405 ic_1 ?_
  refine V_iadd dL_law_406 ?_
  refine V_sld dL_law_407 (q1) ?_
  exact V_sub (by exact (And.intro rfl (And.intro rfl (And.intro rfl (And.intro rfl True.intro))))) (q2)
theorem tL_law_425 {G : gx} {b : bg} {h : ah} {Q : Option Value → ah → Prop} {x3 : Int32} (q1 : vp_in (x3 + (1 : Int32)) (g_n G)) (q2 : V G mL_law b 431 [some (.ref 0), some (.ref 2), some (.ref 42), some (.int x3)] [.int (g_x G (x3 + (1 : Int32)).toNatClampNeg), .ref 2] h Q) : V G mL_law b 425 [some (.ref 0), some (.ref 2), some (.ref 42), some (.int x3)] [] h Q := by
  refine V_aload_n dL_law_425 rfl rfl ?_
  refine V_aload_n dL_law_426 rfl rfl ?_
  refine V_iload_n dL_law_427 rfl rfl ?_
  refine V_iconst dL_law_428 ic_1 ?_
  refine V_iadd dL_law_429 ?_
  refine V_sld dL_law_430 (q1) ?_
  exact V_sub (by exact (And.intro rfl (And.intro rfl (And.intro rfl (And.intro rfl True.intro))))) (q2)
theorem tL_law_448 {G : gx} {b : bg} {h : ah} {Q : Option Value → ah → Prop} {x3 : Int32} (q1 : vp_in (x3 + (1 : Int32)) (g_n G)) (q2 : vp_in (x3 + (2 : Int32)) (g_n G)) (q3 : vp_in (x3 + (3 : Int32)) (g_n G)) (q4 : vp_in (x3 + (4 : Int32)) (g_n G)) (q5 : vp_in (x3 + (5 : Int32)) (g_n G)) (q6 : V G mL_law b 474 [some (.ref 0), some (.ref 2), some (.ref 42), some (.int x3)] [.int (g_x G (x3 + (5 : Int32)).toNatClampNeg), .int (g_x G (x3 + (4 : Int32)).toNatClampNeg), .int (g_x G (x3 + (3 : Int32)).toNatClampNeg), .int (g_x G (x3 + (2 : Int32)).toNatClampNeg), .int (g_x G (x3 + (1 : Int32)).toNatClampNeg), .ref 2] h Q) : V G mL_law b 448 [some (.ref 0), some (.ref 2), some (.ref 42), some (.int x3)] [] h Q := by
  refine V_aload_n dL_law_448 rfl rfl ?_
  refine V_aload_n dL_law_449 rfl rfl ?_
  refine V_iload_n dL_law_450 rfl rfl ?_
  refine V_iconst dL_law_451 ic_1 ?_
  refine V_iadd dL_law_452 ?_
  refine V_sld dL_law_453 (q1) ?_
  refine V_aload_n dL_law_454 rfl rfl ?_
  refine V_iload_n dL_law_455 rfl rfl ?_
  refine V_iconst dL_law_456 ic_2 ?_
  refine V_iadd dL_law_457 ?_
  refine V_sld dL_law_458 (q2) ?_
  refine V_aload_n dL_law_459 rfl rfl ?_
  refine V_iload_n dL_law_460 rfl rfl ?_
  refine V_iconst dL_law_461 ic_3 ?_
  refine V_iadd dL_law_462 ?_
  refine V_sld dL_law_463 (q3) ?_
  refine V_aload_n dL_law_464 rfl rfl ?_
  refine V_iload_n dL_law_465 rfl rfl ?_
  refine V_iconst dL_law_466 ic_4 ?_
  refine V_iadd dL_law_467 ?_
  refine V_sld dL_law_468 (q4) ?_
  refine V_aload_n dL_law_469 rfl rfl ?_
  refine V_iload_n dL_law_470 rfl rfl ?_
  refine V_iconst dL_law_471 ic_5 ?_
  refine V_iadd dL_law_472 ?_
  refine V_sld dL_law_473 (q5) ?_
  exact V_sub (by exact (And.intro rfl (And.intro rfl (And.intro rfl (And.intro rfl True.intro))))) (q6)
theorem tL_law_511 {G : gx} {b : bg} {h : ah} {Q : Option Value → ah → Prop} {x3 : Int32} (q1 : vp_in (x3 + (1 : Int32)) (g_n G)) (q2 : vp_in (x3 + (2 : Int32)) (g_n G)) (q3 : V G mL_law b 522 [some (.ref 0), some (.ref 2), some (.ref 42), some (.int x3)] [.int (g_x G (x3 + (2 : Int32)).toNatClampNeg), .int (g_x G (x3 + (1 : Int32)).toNatClampNeg), .ref 2] h Q) : V G mL_law b 511 [some (.ref 0), some (.ref 2), some (.ref 42), some (.int x3)] [] h Q := by
  refine V_aload_n dL_law_511 rfl rfl ?_
  refine V_aload_n dL_law_512 rfl rfl ?_
  refine V_iload_n dL_law_513 rfl rfl ?_
  refine V_iconst dL_law_514 ic_1 ?_
  refine V_iadd dL_law_515 ?_
  refine V_sld dL_law_516 (q1) ?_
  refine V_aload_n dL_law_517 rfl rfl ?_
  refine V_iload_n dL_law_518 rfl rfl ?_
  refine V_iconst dL_law_519 ic_2 ?_
  refine V_iadd dL_law_520 ?_
  refine V_sld dL_law_521 (q2) ?_
  exact V_sub (by exact (And.intro rfl (And.intro rfl (And.intro rfl (And.intro rfl True.intro))))) (q3)
theorem tL_law_544 {G : gx} {b : bg} {h : ah} {Q : Option Value → ah → Prop} {x3 : Int32} (q1 : vp_in (x3 + (1 : Int32)) (g_n G)) (q2 : V G mL_law b 550 [some (.ref 0), some (.ref 2), some (.ref 42), some (.int x3)] [.int (g_x G (x3 + (1 : Int32)).toNatClampNeg), .ref 2] h Q) : V G mL_law b 544 [some (.ref 0), some (.ref 2), some (.ref 42), some (.int x3)] [] h Q := by
  refine V_aload_n dL_law_544 rfl rfl ?_
  refine V_aload_n dL_law_545 rfl rfl ?_
  refine V_iload_n dL_law_546 rfl rfl ?_
  refine V_iconst dL_law_547 ic_1 ?_
  refine V_iadd dL_law_548 ?_
  refine V_sld dL_law_549 (q1) ?_
  exact V_sub (by exact (And.intro rfl (And.intro rfl (And.intro rfl (And.intro rfl True.intro))))) (q2)
theorem tL_law_567 {G : gx} {b : bg} {h : ah} {Q : Option Value → ah → Prop} {x3 : Int32} (q1 : vp_in (x3 + (1 : Int32)) (g_n G)) (q2 : V G mL_law b 573 [some (.ref 0), some (.ref 2), some (.ref 42), some (.int x3)] [.int (g_x G (x3 + (1 : Int32)).toNatClampNeg), .ref 2] h Q) : V G mL_law b 567 [some (.ref 0), some (.ref 2), some (.ref 42), some (.int x3)] [] h Q := by
  refine V_aload_n dL_law_567 rfl rfl ?_
  refine V_aload_n dL_law_568 rfl rfl ?_
  refine V_iload_n dL_law_569 rfl rfl ?_
  refine V_iconst dL_law_570 ic_1 ?_
  refine V_iadd dL_law_571 ?_
  refine V_sld dL_law_572 (q1) ?_
  exact V_sub (by exact (And.intro rfl (And.intro rfl (And.intro rfl (And.intro rfl True.intro))))) (q2)
theorem tL_law_590 {G : gx} {b : bg} {h : ah} {Q : Option Value → ah → Prop} {x3 : Int32} (q1 : V G mL_law b 591 [some (.ref 0), some (.ref 2), some (.ref 42), some (.int x3)] [.ref 2] h Q) : V G mL_law b 590 [some (.ref 0), some (.ref 2), some (.ref 42), some (.int x3)] [] h Q := by
  refine V_aload_n dL_law_590 rfl rfl ?_
  exact V_sub (by exact (And.intro rfl (And.intro rfl (And.intro rfl (And.intro rfl True.intro))))) (q1)
theorem tL_law_603 {G : gx} {b : bg} {h : ah} {Q : Option Value → ah → Prop} {x3 : Int32} (q1 : vp_in (x3 + (1 : Int32)) (g_n G)) (q2 : vp_in (x3 + (2 : Int32)) (g_n G)) (q3 : V G mL_law b 614 [some (.ref 0), some (.ref 2), some (.ref 42), some (.int x3)] [.int (g_x G (x3 + (2 : Int32)).toNatClampNeg), .int (g_x G (x3 + (1 : Int32)).toNatClampNeg), .ref 2] h Q) : V G mL_law b 603 [some (.ref 0), some (.ref 2), some (.ref 42), some (.int x3)] [] h Q := by
  refine V_aload_n dL_law_603 rfl rfl ?_
  refine V_aload_n dL_law_604 rfl rfl ?_
  refine V_iload_n dL_law_605 rfl rfl ?_
  refine V_iconst dL_law_606 ic_1 ?_
  refine V_iadd dL_law_607 ?_
  refine V_sld dL_law_608 (q1) ?_
  refine V_aload_n dL_law_609 rfl rfl ?_
  refine V_iload_n dL_law_610 rfl rfl ?_
  refine V_iconst dL_law_611 ic_2 ?_
  refine V_iadd dL_law_612 ?_
  refine V_sld dL_law_613 (q2) ?_
  exact V_sub (by exact (And.intro rfl (And.intro rfl (And.intro rfl (And.intro rfl True.intro))))) (q3)
theorem tL_law_636 {G : gx} {b : bg} {h : ah} {Q : Option Value → ah → Prop} {x3 : Int32} (q1 : V G mL_law b 637 [some (.ref 0), some (.ref 2), some (.ref 42), some (.int x3)] [.ref 2] h Q) : V G mL_law b 636 [some (.ref 0), some (.ref 2), some (.ref 42), some (.int x3)] [] h Q := by
  refine V_aload_n dL_law_636 rfl rfl ?_
  exact V_sub (by exact (And.intro rfl (And.intro rfl (And.intro rfl (And.intro rfl True.intro))))) (q1)
theorem tL_law_649 {G : gx} {b : bg} {h : ah} {Q : Option Value → ah → Prop} {x3 : Int32} (q1 : V G mL_law b 650 [some (.ref 0), some (.ref 2), some (.ref 42), some (.int x3)] [.ref 2] h Q) : V G mL_law b 649 [some (.ref 0), some (.ref 2), some (.ref 42), some (.int x3)] [] h Q := by
  refine V_aload_n dL_law_649 rfl rfl ?_
  exact V_sub (by exact (And.intro rfl (And.intro rfl (And.intro rfl (And.intro rfl True.intro))))) (q1)
theorem tL_law_662 {G : gx} {b : bg} {h : ah} {Q : Option Value → ah → Prop} {x3 : Int32} (q1 : vp_in (x3 + (1 : Int32)) (g_n G)) (q2 : V G mL_law b 668 [some (.ref 0), some (.ref 2), some (.ref 42), some (.int x3)] [.int (g_x G (x3 + (1 : Int32)).toNatClampNeg), .ref 2] h Q) : V G mL_law b 662 [some (.ref 0), some (.ref 2), some (.ref 42), some (.int x3)] [] h Q := by
  refine V_aload_n dL_law_662 rfl rfl ?_
  refine V_aload_n dL_law_663 rfl rfl ?_
  refine V_iload_n dL_law_664 rfl rfl ?_
  refine V_iconst dL_law_665 ic_1 ?_
  refine V_iadd dL_law_666 ?_
  refine V_sld dL_law_667 (q1) ?_
  exact V_sub (by exact (And.intro rfl (And.intro rfl (And.intro rfl (And.intro rfl True.intro))))) (q2)
theorem tL_law_685 {G : gx} {b : bg} {h : ah} {Q : Option Value → ah → Prop} {x3 : Int32} (q1 : vp_in (x3 + (1 : Int32)) (g_n G)) (q2 : vp_in (x3 + (2 : Int32)) (g_n G)) (q3 : V G mL_law b 696 [some (.ref 0), some (.ref 2), some (.ref 42), some (.int x3)] [.int (g_x G (x3 + (2 : Int32)).toNatClampNeg), .int (g_x G (x3 + (1 : Int32)).toNatClampNeg), .ref 2] h Q) : V G mL_law b 685 [some (.ref 0), some (.ref 2), some (.ref 42), some (.int x3)] [] h Q := by
  refine V_aload_n dL_law_685 rfl rfl ?_
  refine V_aload_n dL_law_686 rfl rfl ?_
  refine V_iload_n dL_law_687 rfl rfl ?_
  refine V_iconst dL_law_688 ic_1 ?_
  refine V_iadd dL_law_689 ?_
  refine V_sld dL_law_690 (q1) ?_
  refine V_aload_n dL_law_691 rfl rfl ?_
  refine V_iload_n dL_law_692 rfl rfl ?_
  refine V_iconst dL_law_693 ic_2 ?_
  refine V_iadd dL_law_694 ?_
  refine V_sld dL_law_695 (q2) ?_
  exact V_sub (by exact (And.intro rfl (And.intro rfl (And.intro rfl (And.intro rfl True.intro))))) (q3)
theorem tL_law_718 {G : gx} {b : bg} {h : ah} {Q : Option Value → ah → Prop} {x3 : Int32} (q1 : V G mL_law b 719 [some (.ref 0), some (.ref 2), some (.ref 42), some (.int x3)] [.ref 2] h Q) : V G mL_law b 718 [some (.ref 0), some (.ref 2), some (.ref 42), some (.int x3)] [] h Q := by
  refine V_aload_n dL_law_718 rfl rfl ?_
  exact V_sub (by exact (And.intro rfl (And.intro rfl (And.intro rfl (And.intro rfl True.intro))))) (q1)
theorem tL_law_731 {G : gx} {b : bg} {h : ah} {Q : Option Value → ah → Prop} {x3 : Int32} (q1 : vp_in (x3 + (1 : Int32)) (g_n G)) (q2 : V G mL_law b 737 [some (.ref 0), some (.ref 2), some (.ref 42), some (.int x3)] [.int (g_x G (x3 + (1 : Int32)).toNatClampNeg), .ref 2] h Q) : V G mL_law b 731 [some (.ref 0), some (.ref 2), some (.ref 42), some (.int x3)] [] h Q := by
  refine V_aload_n dL_law_731 rfl rfl ?_
  refine V_aload_n dL_law_732 rfl rfl ?_
  refine V_iload_n dL_law_733 rfl rfl ?_
  refine V_iconst dL_law_734 ic_1 ?_
  refine V_iadd dL_law_735 ?_
  refine V_sld dL_law_736 (q1) ?_
  exact V_sub (by exact (And.intro rfl (And.intro rfl (And.intro rfl (And.intro rfl True.intro))))) (q2)
theorem tL_law_754 {G : gx} {b : bg} {h : ah} {Q : Option Value → ah → Prop} {x3 : Int32} (q1 : vp_in (x3 + (1 : Int32)) (g_n G)) (q2 : V G mL_law b 760 [some (.ref 0), some (.ref 2), some (.ref 42), some (.int x3)] [.int (g_x G (x3 + (1 : Int32)).toNatClampNeg), .ref 2] h Q) : V G mL_law b 754 [some (.ref 0), some (.ref 2), some (.ref 42), some (.int x3)] [] h Q := by
  refine V_aload_n dL_law_754 rfl rfl ?_
  refine V_aload_n dL_law_755 rfl rfl ?_
  refine V_iload_n dL_law_756 rfl rfl ?_
  refine V_iconst dL_law_757 ic_1 ?_
  refine V_iadd dL_law_758 ?_
  refine V_sld dL_law_759 (q1) ?_
  exact V_sub (by exact (And.intro rfl (And.intro rfl (And.intro rfl (And.intro rfl True.intro))))) (q2)
theorem tL_law_777 {G : gx} {b : bg} {h : ah} {Q : Option Value → ah → Prop} {x3 : Int32} (q1 : vp_in (x3 + (1 : Int32)) (g_n G)) (q2 : V G mL_law b 783 [some (.ref 0), some (.ref 2), some (.ref 42), some (.int x3)] [.int (g_x G (x3 + (1 : Int32)).toNatClampNeg), .ref 2] h Q) : V G mL_law b 777 [some (.ref 0), some (.ref 2), some (.ref 42), some (.int x3)] [] h Q := by
  refine V_aload_n dL_law_777 rfl rfl ?_
  refine V_aload_n dL_law_778 rfl rfl ?_
  refine V_iload_n dL_law_779 rfl rfl ?_
  refine V_iconst dL_law_780 ic_1 ?_
  refine V_iadd dL_law_781 ?_
  refine V_sld dL_law_782 (q1) ?_
  exact V_sub (by exact (And.intro rfl (And.intro rfl (And.intro rfl (And.intro rfl True.intro))))) (q2)
theorem tL_law_800 {G : gx} {b : bg} {h : ah} {Q : Option Value → ah → Prop} {x3 : Int32} (q1 : vp_in (x3 + (1 : Int32)) (g_n G)) (q2 : vp_in (x3 + (2 : Int32)) (g_n G)) (q3 : V G mL_law b 811 [some (.ref 0), some (.ref 2), some (.ref 42), some (.int x3)] [.int (g_x G (x3 + (2 : Int32)).toNatClampNeg), .int (g_x G (x3 + (1 : Int32)).toNatClampNeg), .ref 2] h Q) : V G mL_law b 800 [some (.ref 0), some (.ref 2), some (.ref 42), some (.int x3)] [] h Q := by
  refine V_aload_n dL_law_800 rfl rfl ?_
  refine V_aload_n dL_law_801 rfl rfl ?_
  refine V_iload_n dL_law_802 rfl rfl ?_
  refine V_iconst dL_law_803 ic_1 ?_
  refine V_iadd dL_law_804 ?_
  refine V_sld dL_law_805 (q1) ?_
  refine V_aload_n dL_law_806 rfl rfl ?_
  refine V_iload_n dL_law_807 rfl rfl ?_
  refine V_iconst dL_law_808 ic_2 ?_
  refine V_iadd dL_law_809 ?_
  refine V_sld dL_law_810 (q2) ?_
  exact V_sub (by exact (And.intro rfl (And.intro rfl (And.intro rfl (And.intro rfl True.intro))))) (q3)
theorem tL_law_833 {G : gx} {b : bg} {h : ah} {Q : Option Value → ah → Prop} {x3 : Int32} (q1 : vp_in (x3 + (1 : Int32)) (g_n G)) (q2 : vp_in (x3 + (2 : Int32)) (g_n G)) (q3 : vp_in (x3 + (3 : Int32)) (g_n G)) (q4 : V G mL_law b 849 [some (.ref 0), some (.ref 2), some (.ref 42), some (.int x3)] [.int (g_x G (x3 + (3 : Int32)).toNatClampNeg), .int (g_x G (x3 + (2 : Int32)).toNatClampNeg), .int (g_x G (x3 + (1 : Int32)).toNatClampNeg), .ref 2] h Q) : V G mL_law b 833 [some (.ref 0), some (.ref 2), some (.ref 42), some (.int x3)] [] h Q := by
  refine V_aload_n dL_law_833 rfl rfl ?_
  refine V_aload_n dL_law_834 rfl rfl ?_
  refine V_iload_n dL_law_835 rfl rfl ?_
  refine V_iconst dL_law_836 ic_1 ?_
  refine V_iadd dL_law_837 ?_
  refine V_sld dL_law_838 (q1) ?_
  refine V_aload_n dL_law_839 rfl rfl ?_
  refine V_iload_n dL_law_840 rfl rfl ?_
  refine V_iconst dL_law_841 ic_2 ?_
  refine V_iadd dL_law_842 ?_
  refine V_sld dL_law_843 (q2) ?_
  refine V_aload_n dL_law_844 rfl rfl ?_
  refine V_iload_n dL_law_845 rfl rfl ?_
  refine V_iconst dL_law_846 ic_3 ?_
  refine V_iadd dL_law_847 ?_
  refine V_sld dL_law_848 (q3) ?_
  exact V_sub (by exact (And.intro rfl (And.intro rfl (And.intro rfl (And.intro rfl True.intro))))) (q4)
theorem tL_law_876 {G : gx} {b : bg} {h : ah} {Q : Option Value → ah → Prop} {x3 : Int32} (q1 : vp_in (x3 + (1 : Int32)) (g_n G)) (q2 : V G mL_law b 882 [some (.ref 0), some (.ref 2), some (.ref 42), some (.int x3)] [.int (g_x G (x3 + (1 : Int32)).toNatClampNeg), .ref 2] h Q) : V G mL_law b 876 [some (.ref 0), some (.ref 2), some (.ref 42), some (.int x3)] [] h Q := by
  refine V_aload_n dL_law_876 rfl rfl ?_
  refine V_aload_n dL_law_877 rfl rfl ?_
  refine V_iload_n dL_law_878 rfl rfl ?_
  refine V_iconst dL_law_879 ic_1 ?_
  refine V_iadd dL_law_880 ?_
  refine V_sld dL_law_881 (q1) ?_
  exact V_sub (by exact (And.intro rfl (And.intro rfl (And.intro rfl (And.intro rfl True.intro))))) (q2)
theorem tL_law_899 {G : gx} {b : bg} {h : ah} {Q : Option Value → ah → Prop} {x3 : Int32} (q1 : vp_in (x3 + (1 : Int32)) (g_n G)) (q2 : vp_in (x3 + (2 : Int32)) (g_n G)) (q3 : vp_in (x3 + (3 : Int32)) (g_n G)) (q4 : vp_in (x3 + (4 : Int32)) (g_n G)) (q5 : V G mL_law b 920 [some (.ref 0), some (.ref 2), some (.ref 42), some (.int x3)] [.int (g_x G (x3 + (4 : Int32)).toNatClampNeg), .int (g_x G (x3 + (3 : Int32)).toNatClampNeg), .int (g_x G (x3 + (2 : Int32)).toNatClampNeg), .int (g_x G (x3 + (1 : Int32)).toNatClampNeg), .ref 2] h Q) : V G mL_law b 899 [some (.ref 0), some (.ref 2), some (.ref 42), some (.int x3)] [] h Q := by
  refine V_aload_n dL_law_899 rfl rfl ?_
  refine V_aload_n dL_law_900 rfl rfl ?_
  refine V_iload_n dL_law_901 rfl rfl ?_
  refine V_iconst dL_law_902 ic_1 ?_
  refine V_iadd dL_law_903 ?_
  refine V_sld dL_law_904 (q1) ?_
  refine V_aload_n dL_law_905 rfl rfl ?_
  refine V_iload_n dL_law_906 rfl rfl ?_
  refine V_iconst dL_law_907 ic_2 ?_
  refine V_iadd dL_law_908 ?_
  refine V_sld dL_law_909 (q2) ?_
  refine V_aload_n dL_law_910 rfl rfl ?_
  refine V_iload_n dL_law_911 rfl rfl ?_
  refine V_iconst dL_law_912 ic_3 ?_
  refine V_iadd dL_law_913 ?_
  refine V_sld dL_law_914 (q3) ?_
  refine V_aload_n dL_law_915 rfl rfl ?_
  refine V_iload_n dL_law_916 rfl rfl ?_
  refine V_iconst dL_law_917 ic_4 ?_
  refine V_iadd dL_law_918 ?_
  refine V_sld dL_law_919 (q4) ?_
  exact V_sub (by exact (And.intro rfl (And.intro rfl (And.intro rfl (And.intro rfl True.intro))))) (q5)
theorem tL_law_952 {G : gx} {b : bg} {h : ah} {Q : Option Value → ah → Prop} {x3 : Int32} (q1 : vp_in (x3 + (1 : Int32)) (g_n G)) (q2 : vp_in (x3 + (2 : Int32)) (g_n G)) (q3 : vp_in (x3 + (3 : Int32)) (g_n G)) (q4 : V G mL_law b 968 [some (.ref 0), some (.ref 2), some (.ref 42), some (.int x3)] [.int (g_x G (x3 + (3 : Int32)).toNatClampNeg), .int (g_x G (x3 + (2 : Int32)).toNatClampNeg), .int (g_x G (x3 + (1 : Int32)).toNatClampNeg), .ref 2] h Q) : V G mL_law b 952 [some (.ref 0), some (.ref 2), some (.ref 42), some (.int x3)] [] h Q := by
  refine V_aload_n dL_law_952 rfl rfl ?_
  refine V_aload_n dL_law_953 rfl rfl ?_
  refine V_iload_n dL_law_954 rfl rfl ?_
  refine V_iconst dL_law_955 ic_1 ?_
  refine V_iadd dL_law_956 ?_
  refine V_sld dL_law_957 (q1) ?_
  refine V_aload_n dL_law_958 rfl rfl ?_
  refine V_iload_n dL_law_959 rfl rfl ?_
  refine V_iconst dL_law_960 ic_2 ?_
  refine V_iadd dL_law_961 ?_
  refine V_sld dL_law_962 (q2) ?_
  refine V_aload_n dL_law_963 rfl rfl ?_
  refine V_iload_n dL_law_964 rfl rfl ?_
  refine V_iconst dL_law_965 ic_3 ?_
  refine V_iadd dL_law_966 ?_
  refine V_sld dL_law_967 (q3) ?_
  exact V_sub (by exact (And.intro rfl (And.intro rfl (And.intro rfl (And.intro rfl True.intro))))) (q4)
theorem tL_law_995 {G : gx} {b : bg} {h : ah} {Q : Option Value → ah → Prop} {x3 : Int32} (q1 : vp_in (x3 + (1 : Int32)) (g_n G)) (q2 : vp_in (x3 + (2 : Int32)) (g_n G)) (q3 : vp_in (x3 + (3 : Int32)) (g_n G)) (q4 : vp_in (x3 + (4 : Int32)) (g_n G)) (q5 : vp_in (x3 + (5 : Int32)) (g_n G)) (q6 : V G mL_law b 1021 [some (.ref 0), some (.ref 2), some (.ref 42), some (.int x3)] [.int (g_x G (x3 + (5 : Int32)).toNatClampNeg), .int (g_x G (x3 + (4 : Int32)).toNatClampNeg), .int (g_x G (x3 + (3 : Int32)).toNatClampNeg), .int (g_x G (x3 + (2 : Int32)).toNatClampNeg), .int (g_x G (x3 + (1 : Int32)).toNatClampNeg), .ref 2] h Q) : V G mL_law b 995 [some (.ref 0), some (.ref 2), some (.ref 42), some (.int x3)] [] h Q := by
  refine V_aload_n dL_law_995 rfl rfl ?_
  refine V_aload_n dL_law_996 rfl rfl ?_
  refine V_iload_n dL_law_997 rfl rfl ?_
  refine V_iconst dL_law_998 ic_1 ?_
  refine V_iadd dL_law_999 ?_
  refine V_sld dL_law_1000 (q1) ?_
  refine V_aload_n dL_law_1001 rfl rfl ?_
  refine V_iload_n dL_law_1002 rfl rfl ?_
  refine V_iconst dL_law_1003 ic_2 ?_
  refine V_iadd dL_law_1004 ?_
  refine V_sld dL_law_1005 (q2) ?_
  refine V_aload_n dL_law_1006 rfl rfl ?_
  refine V_iload_n dL_law_1007 rfl rfl ?_
  refine V_iconst dL_law_1008 ic_3 ?_
  refine V_iadd dL_law_1009 ?_
  refine V_sld dL_law_1010 (q3) ?_
  refine V_aload_n dL_law_1011 rfl rfl ?_
  refine V_iload_n dL_law_1012 rfl rfl ?_
  refine V_iconst dL_law_1013 ic_4 ?_
  refine V_iadd dL_law_1014 ?_
  refine V_sld dL_law_1015 (q4) ?_
  refine V_aload_n dL_law_1016 rfl rfl ?_
  refine V_iload_n dL_law_1017 rfl rfl ?_
  refine V_iconst dL_law_1018 ic_5 ?_
  refine V_iadd dL_law_1019 ?_
  refine V_sld dL_law_1020 (q5) ?_
  exact V_sub (by exact (And.intro rfl (And.intro rfl (And.intro rfl (And.intro rfl True.intro))))) (q6)
theorem tL_law_1058 {G : gx} {b : bg} {h : ah} {Q : Option Value → ah → Prop} {x3 : Int32} (q1 : vp_in (x3 + (1 : Int32)) (g_n G)) (q2 : vp_in (x3 + (2 : Int32)) (g_n G)) (q3 : vp_in (x3 + (3 : Int32)) (g_n G)) (q4 : vp_in (x3 + (4 : Int32)) (g_n G)) (q5 : V G mL_law b 1079 [some (.ref 0), some (.ref 2), some (.ref 42), some (.int x3)] [.int (g_x G (x3 + (4 : Int32)).toNatClampNeg), .int (g_x G (x3 + (3 : Int32)).toNatClampNeg), .int (g_x G (x3 + (2 : Int32)).toNatClampNeg), .int (g_x G (x3 + (1 : Int32)).toNatClampNeg), .ref 2] h Q) : V G mL_law b 1058 [some (.ref 0), some (.ref 2), some (.ref 42), some (.int x3)] [] h Q := by
  refine V_aload_n dL_law_1058 rfl rfl ?_
  refine V_aload_n dL_law_1059 rfl rfl ?_
  refine V_iload_n dL_law_1060 rfl rfl ?_
  refine V_iconst dL_law_1061 ic_1 ?_
  refine V_iadd dL_law_1062 ?_
  refine V_sld dL_law_1063 (q1) ?_
  refine V_aload_n dL_law_1064 rfl rfl ?_
  refine V_iload_n dL_law_1065 rfl rfl ?_
  refine V_iconst dL_law_1066 ic_2 ?_
  refine V_iadd dL_law_1067 ?_
  refine V_sld dL_law_1068 (q2) ?_
  refine V_aload_n dL_law_1069 rfl rfl ?_
  refine V_iload_n dL_law_1070 rfl rfl ?_
  refine V_iconst dL_law_1071 ic_3 ?_
  refine V_iadd dL_law_1072 ?_
  refine V_sld dL_law_1073 (q3) ?_
  refine V_aload_n dL_law_1074 rfl rfl ?_
  refine V_iload_n dL_law_1075 rfl rfl ?_
  refine V_iconst dL_law_1076 ic_4 ?_
  refine V_iadd dL_law_1077 ?_
  refine V_sld dL_law_1078 (q4) ?_
  exact V_sub (by exact (And.intro rfl (And.intro rfl (And.intro rfl (And.intro rfl True.intro))))) (q5)
theorem tL_law_1111 {G : gx} {b : bg} {h : ah} {Q : Option Value → ah → Prop} {x3 : Int32} (q1 : vp_in (x3 + (1 : Int32)) (g_n G)) (q2 : vp_in (x3 + (2 : Int32)) (g_n G)) (q3 : vp_in (x3 + (3 : Int32)) (g_n G)) (q4 : vp_in (x3 + (4 : Int32)) (g_n G)) (q5 : V G mL_law b 1132 [some (.ref 0), some (.ref 2), some (.ref 42), some (.int x3)] [.int (g_x G (x3 + (4 : Int32)).toNatClampNeg), .int (g_x G (x3 + (3 : Int32)).toNatClampNeg), .int (g_x G (x3 + (2 : Int32)).toNatClampNeg), .int (g_x G (x3 + (1 : Int32)).toNatClampNeg), .ref 2] h Q) : V G mL_law b 1111 [some (.ref 0), some (.ref 2), some (.ref 42), some (.int x3)] [] h Q := by
  refine V_aload_n dL_law_1111 rfl rfl ?_
  refine V_aload_n dL_law_1112 rfl rfl ?_
  refine V_iload_n dL_law_1113 rfl rfl ?_
  refine V_iconst dL_law_1114 ic_1 ?_
  refine V_iadd dL_law_1115 ?_
  refine V_sld dL_law_1116 (q1) ?_
  refine V_aload_n dL_law_1117 rfl rfl ?_
  refine V_iload_n dL_law_1118 rfl rfl ?_
  refine V_iconst dL_law_1119 ic_2 ?_
  refine V_iadd dL_law_1120 ?_
  refine V_sld dL_law_1121 (q2) ?_
  refine V_aload_n dL_law_1122 rfl rfl ?_
  refine V_iload_n dL_law_1123 rfl rfl ?_
  refine V_iconst dL_law_1124 ic_3 ?_
  refine V_iadd dL_law_1125 ?_
  refine V_sld dL_law_1126 (q3) ?_
  refine V_aload_n dL_law_1127 rfl rfl ?_
  refine V_iload_n dL_law_1128 rfl rfl ?_
  refine V_iconst dL_law_1129 ic_4 ?_
  refine V_iadd dL_law_1130 ?_
  refine V_sld dL_law_1131 (q4) ?_
  exact V_sub (by exact (And.intro rfl (And.intro rfl (And.intro rfl (And.intro rfl True.intro))))) (q5)
theorem tL_law_1164 {G : gx} {b : bg} {h : ah} {Q : Option Value → ah → Prop} {x3 : Int32} (q1 : V G mL_law b 1165 [some (.ref 0), some (.ref 2), some (.ref 42), some (.int x3)] [.ref 2] h Q) : V G mL_law b 1164 [some (.ref 0), some (.ref 2), some (.ref 42), some (.int x3)] [] h Q := by
  refine V_aload_n dL_law_1164 rfl rfl ?_
  exact V_sub (by exact (And.intro rfl (And.intro rfl (And.intro rfl (And.intro rfl True.intro))))) (q1)
theorem tL_law_1177 {G : gx} {b : bg} {h : ah} {Q : Option Value → ah → Prop} {x3 : Int32} (q1 : vp_in (x3 + (1 : Int32)) (g_n G)) (q2 : V G mL_law b 1183 [some (.ref 0), some (.ref 2), some (.ref 42), some (.int x3)] [.int (g_x G (x3 + (1 : Int32)).toNatClampNeg), .ref 2] h Q) : V G mL_law b 1177 [some (.ref 0), some (.ref 2), some (.ref 42), some (.int x3)] [] h Q := by
  refine V_aload_n dL_law_1177 rfl rfl ?_
  refine V_aload_n dL_law_1178 rfl rfl ?_
  refine V_iload_n dL_law_1179 rfl rfl ?_
  refine V_iconst dL_law_1180 ic_1 ?_
  refine V_iadd dL_law_1181 ?_
  refine V_sld dL_law_1182 (q1) ?_
  exact V_sub (by exact (And.intro rfl (And.intro rfl (And.intro rfl (And.intro rfl True.intro))))) (q2)
theorem tL_law_1200 {G : gx} {b : bg} {h : ah} {Q : Option Value → ah → Prop} {x3 : Int32} (q1 : vp_in (x3 + (1 : Int32)) (g_n G)) (q2 : V G mL_law b 1206 [some (.ref 0), some (.ref 2), some (.ref 42), some (.int x3)] [.int (g_x G (x3 + (1 : Int32)).toNatClampNeg), .ref 2] h Q) : V G mL_law b 1200 [some (.ref 0), some (.ref 2), some (.ref 42), some (.int x3)] [] h Q := by
  refine V_aload_n dL_law_1200 rfl rfl ?_
  refine V_aload_n dL_law_1201 rfl rfl ?_
  refine V_iload_n dL_law_1202 rfl rfl ?_
  refine V_iconst dL_law_1203 ic_1 ?_
  refine V_iadd dL_law_1204 ?_
  refine V_sld dL_law_1205 (q1) ?_
  exact V_sub (by exact (And.intro rfl (And.intro rfl (And.intro rfl (And.intro rfl True.intro))))) (q2)
theorem tL_law_1223 {G : gx} {b : bg} {h : ah} {Q : Option Value → ah → Prop} {x3 : Int32} (q1 : vp_in (x3 + (1 : Int32)) (g_n G)) (q2 : V G mL_law b 1229 [some (.ref 0), some (.ref 2), some (.ref 42), some (.int x3)] [.int (g_x G (x3 + (1 : Int32)).toNatClampNeg), .ref 2] h Q) : V G mL_law b 1223 [some (.ref 0), some (.ref 2), some (.ref 42), some (.int x3)] [] h Q := by
  refine V_aload_n dL_law_1223 rfl rfl ?_
  refine V_aload_n dL_law_1224 rfl rfl ?_
  refine V_iload_n dL_law_1225 rfl rfl ?_
  refine V_iconst dL_law_1226 ic_1 ?_
  refine V_iadd dL_law_1227 ?_
  refine V_sld dL_law_1228 (q1) ?_
  exact V_sub (by exact (And.intro rfl (And.intro rfl (And.intro rfl (And.intro rfl True.intro))))) (q2)
theorem tL_law_1246 {G : gx} {b : bg} {h : ah} {Q : Option Value → ah → Prop} {x3 : Int32} (q1 : vp_in (x3 + (1 : Int32)) (g_n G)) (q2 : V G mL_law b 1252 [some (.ref 0), some (.ref 2), some (.ref 42), some (.int x3)] [.int (g_x G (x3 + (1 : Int32)).toNatClampNeg), .ref 2] h Q) : V G mL_law b 1246 [some (.ref 0), some (.ref 2), some (.ref 42), some (.int x3)] [] h Q := by
  refine V_aload_n dL_law_1246 rfl rfl ?_
  refine V_aload_n dL_law_1247 rfl rfl ?_
  refine V_iload_n dL_law_1248 rfl rfl ?_
  refine V_iconst dL_law_1249 ic_1 ?_
  refine V_iadd dL_law_1250 ?_
  refine V_sld dL_law_1251 (q1) ?_
  exact V_sub (by exact (And.intro rfl (And.intro rfl (And.intro rfl (And.intro rfl True.intro))))) (q2)
theorem tL_law_1269 {G : gx} {b : bg} {h : ah} {Q : Option Value → ah → Prop} {x3 : Int32} (q1 : vp_in (x3 + (1 : Int32)) (g_n G)) (q2 : V G mL_law b 1275 [some (.ref 0), some (.ref 2), some (.ref 42), some (.int x3)] [.int (g_x G (x3 + (1 : Int32)).toNatClampNeg), .ref 2] h Q) : V G mL_law b 1269 [some (.ref 0), some (.ref 2), some (.ref 42), some (.int x3)] [] h Q := by
  refine V_aload_n dL_law_1269 rfl rfl ?_
  refine V_aload_n dL_law_1270 rfl rfl ?_
  refine V_iload_n dL_law_1271 rfl rfl ?_
  refine V_iconst dL_law_1272 ic_1 ?_
  refine V_iadd dL_law_1273 ?_
  refine V_sld dL_law_1274 (q1) ?_
  exact V_sub (by exact (And.intro rfl (And.intro rfl (And.intro rfl (And.intro rfl True.intro))))) (q2)
theorem tL_law_1292 {G : gx} {b : bg} {h : ah} {Q : Option Value → ah → Prop} {x3 : Int32} (q1 : vp_in (x3 + (1 : Int32)) (g_n G)) (q2 : V G mL_law b 1298 [some (.ref 0), some (.ref 2), some (.ref 42), some (.int x3)] [.int (g_x G (x3 + (1 : Int32)).toNatClampNeg), .ref 2] h Q) : V G mL_law b 1292 [some (.ref 0), some (.ref 2), some (.ref 42), some (.int x3)] [] h Q := by
  refine V_aload_n dL_law_1292 rfl rfl ?_
  refine V_aload_n dL_law_1293 rfl rfl ?_
  refine V_iload_n dL_law_1294 rfl rfl ?_
  refine V_iconst dL_law_1295 ic_1 ?_
  refine V_iadd dL_law_1296 ?_
  refine V_sld dL_law_1297 (q1) ?_
  exact V_sub (by exact (And.intro rfl (And.intro rfl (And.intro rfl (And.intro rfl True.intro))))) (q2)
theorem tL_law_1315 {G : gx} {b : bg} {h : ah} {Q : Option Value → ah → Prop} {x3 : Int32} (q1 : V G mL_law b 1316 [some (.ref 0), some (.ref 2), some (.ref 42), some (.int x3)] [.ref 2] h Q) : V G mL_law b 1315 [some (.ref 0), some (.ref 2), some (.ref 42), some (.int x3)] [] h Q := by
  refine V_aload_n dL_law_1315 rfl rfl ?_
  exact V_sub (by exact (And.intro rfl (And.intro rfl (And.intro rfl (And.intro rfl True.intro))))) (q1)
theorem tL_law_1329 {G : gx} {b : bg} {h : ah} {Q : Option Value → ah → Prop} {x3 : Int32} (q1 : V G mL_law b 18 [some (.ref 0), some (.ref 2), some (.ref 42), some (.int (x3 + (6 : Int32)))] [] h Q) : V G mL_law b 1329 [some (.ref 0), some (.ref 2), some (.ref 42), some (.int x3)] [] h Q := by
  refine V_inc dL_law_1329 ic_6 rfl (Nat.le_of_ble_eq_true rfl) ?_
  refine V_goto (t := 18) dL_law_1332 (by decide) ?_
  exact V_sub (by exact (And.intro rfl (And.intro rfl (And.intro rfl (And.intro rfl True.intro))))) (q1)
theorem tL_law_222 {G : gx} {b : bg} {h : ah} {Q : Option Value → ah → Prop} {x3 : Int32} {s0 : Int32} (q1 : vp_in (x3 + (1 : Int32)) (g_n G)) (q2 : vp_in (x3 + (2 : Int32)) (g_n G)) (q3 : V G mL_law b 233 [some (.ref 0), some (.ref 2), some (.ref 42), some (.int x3)] [.int (g_x G (x3 + (2 : Int32)).toNatClampNeg), .int (g_x G (x3 + (1 : Int32)).toNatClampNeg), .ref 42, .int s0] h Q) : V G mL_law b 222 [some (.ref 0), some (.ref 2), some (.ref 42), some (.int x3)] [.int s0] h Q := by
  refine V_aload_n dL_law_222 rfl rfl ?_
  refine V_aload_n dL_law_223 rfl rfl ?_
  refine V_iload_n dL_law_224 rfl rfl ?_
  refine V_iconst dL_law_225 ic_1 ?_
  refine V_iadd dL_law_226 ?_
  refine V_sld dL_law_227 (q1) ?_
  refine V_aload_n dL_law_228 rfl rfl ?_
  refine V_iload_n dL_law_229 rfl rfl ?_
  refine V_iconst dL_law_230 ic_2 ?_
  refine V_iadd dL_law_231 ?_
  refine V_sld dL_law_232 (q2) ?_
  exact V_sub (by exact (And.intro rfl (And.intro rfl (And.intro rfl (And.intro rfl True.intro))))) (q3)
theorem tL_law_236 {G : gx} {b : bg} {h : ah} {Q : Option Value → ah → Prop} {x3 : Int32} {s0 : Int32} {s1 : Int32} (q1 : (s1 = s0) → V G mL_law b 18 [some (.ref 0), some (.ref 2), some (.ref 42), some (.int (x3 + (6 : Int32)))] [] h Q) (q2 : (¬ s1 = s0) → Q (some (.int (0 : Int32))) h) : V G mL_law b 236 [some (.ref 0), some (.ref 2), some (.ref 42), some (.int x3)] [.int s0, .int s1] h Q := by
  refine V_icmp_eq (t := 1329) dL_law_236 (by decide) (fun z1 => ?_) (fun z1 => ?_)
  ·
    refine V_inc dL_law_1329 ic_6 rfl (Nat.le_of_ble_eq_true rfl) ?_
    refine V_goto (t := 18) dL_law_1332 (by decide) ?_
    exact V_sub (by exact (And.intro rfl (And.intro rfl (And.intro rfl (And.intro rfl True.intro))))) (q1 z1)
  ·
    refine V_iconst dL_law_239 ic_0 ?_
    exact V_zret dL_law_240 rfl rfl (q2 z1)
theorem tL_law_255 {G : gx} {b : bg} {h : ah} {Q : Option Value → ah → Prop} {x3 : Int32} {s0 : Int32} (q1 : vp_in (x3 + (1 : Int32)) (g_n G)) (q2 : vp_in (x3 + (2 : Int32)) (g_n G)) (q3 : V G mL_law b 266 [some (.ref 0), some (.ref 2), some (.ref 42), some (.int x3)] [.int (g_x G (x3 + (2 : Int32)).toNatClampNeg), .int (g_x G (x3 + (1 : Int32)).toNatClampNeg), .ref 42, .int s0] h Q) : V G mL_law b 255 [some (.ref 0), some (.ref 2), some (.ref 42), some (.int x3)] [.int s0] h Q := by
  refine V_aload_n dL_law_255 rfl rfl ?_
  refine V_aload_n dL_law_256 rfl rfl ?_
  refine V_iload_n dL_law_257 rfl rfl ?_
  refine V_iconst dL_law_258 ic_1 ?_
  refine V_iadd dL_law_259 ?_
  refine V_sld dL_law_260 (q1) ?_
  refine V_aload_n dL_law_261 rfl rfl ?_
  refine V_iload_n dL_law_262 rfl rfl ?_
  refine V_iconst dL_law_263 ic_2 ?_
  refine V_iadd dL_law_264 ?_
  refine V_sld dL_law_265 (q2) ?_
  exact V_sub (by exact (And.intro rfl (And.intro rfl (And.intro rfl (And.intro rfl True.intro))))) (q3)
theorem tL_law_269 {G : gx} {b : bg} {h : ah} {Q : Option Value → ah → Prop} {x3 : Int32} {s0 : Int32} {s1 : Int32} (q1 : (s1 = s0) → V G mL_law b 18 [some (.ref 0), some (.ref 2), some (.ref 42), some (.int (x3 + (6 : Int32)))] [] h Q) (q2 : (¬ s1 = s0) → Q (some (.int (0 : Int32))) h) : V G mL_law b 269 [some (.ref 0), some (.ref 2), some (.ref 42), some (.int x3)] [.int s0, .int s1] h Q := by
  refine V_icmp_eq (t := 1329) dL_law_269 (by decide) (fun z1 => ?_) (fun z1 => ?_)
  ·
    refine V_inc dL_law_1329 ic_6 rfl (Nat.le_of_ble_eq_true rfl) ?_
    refine V_goto (t := 18) dL_law_1332 (by decide) ?_
    exact V_sub (by exact (And.intro rfl (And.intro rfl (And.intro rfl (And.intro rfl True.intro))))) (q1 z1)
  ·
    refine V_iconst dL_law_272 ic_0 ?_
    exact V_zret dL_law_273 rfl rfl (q2 z1)
theorem tL_law_283 {G : gx} {b : bg} {h : ah} {Q : Option Value → ah → Prop} {x3 : Int32} {s0 : Int32} (q1 : vp_in (x3 + (1 : Int32)) (g_n G)) (q2 : V G mL_law b 289 [some (.ref 0), some (.ref 2), some (.ref 42), some (.int x3)] [.int (g_x G (x3 + (1 : Int32)).toNatClampNeg), .ref 42, .int s0] h Q) : V G mL_law b 283 [some (.ref 0), some (.ref 2), some (.ref 42), some (.int x3)] [.int s0] h Q := by
  refine V_aload_n dL_law_283 rfl rfl ?_
  refine V_aload_n dL_law_284 rfl rfl ?_
  refine V_iload_n dL_law_285 rfl rfl ?_
  refine V_iconst dL_law_286 ic_1 ?_
  refine V_iadd dL_law_287 ?_
  refine V_sld dL_law_288 (q1) ?_
  exact V_sub (by exact (And.intro rfl (And.intro rfl (And.intro rfl (And.intro rfl True.intro))))) (q2)
theorem tL_law_292 {G : gx} {b : bg} {h : ah} {Q : Option Value → ah → Prop} {x3 : Int32} {s0 : Int32} {s1 : Int32} (q1 : (s1 = s0) → V G mL_law b 18 [some (.ref 0), some (.ref 2), some (.ref 42), some (.int (x3 + (6 : Int32)))] [] h Q) (q2 : (¬ s1 = s0) → Q (some (.int (0 : Int32))) h) : V G mL_law b 292 [some (.ref 0), some (.ref 2), some (.ref 42), some (.int x3)] [.int s0, .int s1] h Q := by
  refine V_icmp_eq (t := 1329) dL_law_292 (by decide) (fun z1 => ?_) (fun z1 => ?_)
  ·
    refine V_inc dL_law_1329 ic_6 rfl (Nat.le_of_ble_eq_true rfl) ?_
    refine V_goto (t := 18) dL_law_1332 (by decide) ?_
    exact V_sub (by exact (And.intro rfl (And.intro rfl (And.intro rfl (And.intro rfl True.intro))))) (q1 z1)
  ·
    refine V_iconst dL_law_295 ic_0 ?_
    exact V_zret dL_law_296 rfl rfl (q2 z1)
theorem tL_law_306 {G : gx} {b : bg} {h : ah} {Q : Option Value → ah → Prop} {x3 : Int32} {s0 : Int32} (q1 : vp_in (x3 + (1 : Int32)) (g_n G)) (q2 : V G mL_law b 312 [some (.ref 0), some (.ref 2), some (.ref 42), some (.int x3)] [.int (g_x G (x3 + (1 : Int32)).toNatClampNeg), .ref 42, .int s0] h Q) : V G mL_law b 306 [some (.ref 0), some (.ref 2), some (.ref 42), some (.int x3)] [.int s0] h Q := by
  refine V_aload_n dL_law_306 rfl rfl ?_
  refine V_aload_n dL_law_307 rfl rfl ?_
  refine V_iload_n dL_law_308 rfl rfl ?_
  refine V_iconst dL_law_309 ic_1 ?_
  refine V_iadd dL_law_310 ?_
  refine V_sld dL_law_311 (q1) ?_
  exact V_sub (by exact (And.intro rfl (And.intro rfl (And.intro rfl (And.intro rfl True.intro))))) (q2)
theorem tL_law_315 {G : gx} {b : bg} {h : ah} {Q : Option Value → ah → Prop} {x3 : Int32} {s0 : Int32} {s1 : Int32} (q1 : (s1 = s0) → V G mL_law b 18 [some (.ref 0), some (.ref 2), some (.ref 42), some (.int (x3 + (6 : Int32)))] [] h Q) (q2 : (¬ s1 = s0) → Q (some (.int (0 : Int32))) h) : V G mL_law b 315 [some (.ref 0), some (.ref 2), some (.ref 42), some (.int x3)] [.int s0, .int s1] h Q := by
  refine V_icmp_eq (t := 1329) dL_law_315 (by decide) (fun z1 => ?_) (fun z1 => ?_)
  ·
    refine V_inc dL_law_1329 ic_6 rfl (Nat.le_of_ble_eq_true rfl) ?_
    refine V_goto (t := 18) dL_law_1332 (by decide) ?_
    exact V_sub (by exact (And.intro rfl (And.intro rfl (And.intro rfl (And.intro rfl True.intro))))) (q1 z1)
  ·
    refine V_iconst dL_law_318 ic_0 ?_
    exact V_zret dL_law_319 rfl rfl (q2 z1)
theorem tL_law_329 {G : gx} {b : bg} {h : ah} {Q : Option Value → ah → Prop} {x3 : Int32} {s0 : Int32} (q1 : vp_in (x3 + (1 : Int32)) (g_n G)) (q2 : V G mL_law b 335 [some (.ref 0), some (.ref 2), some (.ref 42), some (.int x3)] [.int (g_x G (x3 + (1 : Int32)).toNatClampNeg), .ref 42, .int s0] h Q) : V G mL_law b 329 [some (.ref 0), some (.ref 2), some (.ref 42), some (.int x3)] [.int s0] h Q := by
  refine V_aload_n dL_law_329 rfl rfl ?_
  refine V_aload_n dL_law_330 rfl rfl ?_
  refine V_iload_n dL_law_331 rfl rfl ?_
  refine V_iconst dL_law_332 ic_1 ?_
  refine V_iadd dL_law_333 ?_
  refine V_sld dL_law_334 (q1) ?_
  exact V_sub (by exact (And.intro rfl (And.intro rfl (And.intro rfl (And.intro rfl True.intro))))) (q2)
theorem tL_law_338 {G : gx} {b : bg} {h : ah} {Q : Option Value → ah → Prop} {x3 : Int32} {s0 : Int32} {s1 : Int32} (q1 : (s1 = s0) → V G mL_law b 18 [some (.ref 0), some (.ref 2), some (.ref 42), some (.int (x3 + (6 : Int32)))] [] h Q) (q2 : (¬ s1 = s0) → Q (some (.int (0 : Int32))) h) : V G mL_law b 338 [some (.ref 0), some (.ref 2), some (.ref 42), some (.int x3)] [.int s0, .int s1] h Q := by
  refine V_icmp_eq (t := 1329) dL_law_338 (by decide) (fun z1 => ?_) (fun z1 => ?_)
  ·
    refine V_inc dL_law_1329 ic_6 rfl (Nat.le_of_ble_eq_true rfl) ?_
    refine V_goto (t := 18) dL_law_1332 (by decide) ?_
    exact V_sub (by exact (And.intro rfl (And.intro rfl (And.intro rfl (And.intro rfl True.intro))))) (q1 z1)
  ·
    refine V_iconst dL_law_341 ic_0 ?_
    exact V_zret dL_law_342 rfl rfl (q2 z1)
theorem tL_law_352 {G : gx} {b : bg} {h : ah} {Q : Option Value → ah → Prop} {x3 : Int32} {s0 : Int32} (q1 : vp_in (x3 + (1 : Int32)) (g_n G)) (q2 : V G mL_law b 358 [some (.ref 0), some (.ref 2), some (.ref 42), some (.int x3)] [.int (g_x G (x3 + (1 : Int32)).toNatClampNeg), .ref 42, .int s0] h Q) : V G mL_law b 352 [some (.ref 0), some (.ref 2), some (.ref 42), some (.int x3)] [.int s0] h Q := by
  refine V_aload_n dL_law_352 rfl rfl ?_
  refine V_aload_n dL_law_353 rfl rfl ?_
  refine V_iload_n dL_law_354 rfl rfl ?_
  refine V_iconst dL_law_355 ic_1 ?_
  refine V_iadd dL_law_356 ?_
  refine V_sld dL_law_357 (q1) ?_
  exact V_sub (by exact (And.intro rfl (And.intro rfl (And.intro rfl (And.intro rfl True.intro))))) (q2)
theorem tL_law_361 {G : gx} {b : bg} {h : ah} {Q : Option Value → ah → Prop} {x3 : Int32} {s0 : Int32} {s1 : Int32} (q1 : (s1 = s0) → V G mL_law b 18 [some (.ref 0), some (.ref 2), some (.ref 42), some (.int (x3 + (6 : Int32)))] [] h Q) (q2 : (¬ s1 = s0) → Q (some (.int (0 : Int32))) h) : V G mL_law b 361 [some (.ref 0), some (.ref 2), some (.ref 42), some (.int x3)] [.int s0, .int s1] h Q := by
  refine V_icmp_eq (t := 1329) dL_law_361 (by decide) (fun z1 => ?_) (fun z1 => ?_)
  ·
    refine V_inc dL_law_1329 ic_6 rfl (Nat.le_of_ble_eq_true rfl) ?_
    refine V_goto (t := 18) dL_law_1332 (by decide) ?_
    exact V_sub (by exact (And.intro rfl (And.intro rfl (And.intro rfl (And.intro rfl True.intro))))) (q1 z1)
  ·
    refine V_iconst dL_law_364 ic_0 ?_
    exact V_zret dL_law_365 rfl rfl (q2 z1)
theorem tL_law_370 {G : gx} {b : bg} {h : ah} {Q : Option Value → ah → Prop} {x3 : Int32} {s0 : Int32} (q1 : V G mL_law b 371 [some (.ref 0), some (.ref 2), some (.ref 42), some (.int x3)] [.ref 42, .int s0] h Q) : V G mL_law b 370 [some (.ref 0), some (.ref 2), some (.ref 42), some (.int x3)] [.int s0] h Q := by
  refine V_aload_n dL_law_370 rfl rfl ?_
  exact V_sub (by exact (And.intro rfl (And.intro rfl (And.intro rfl (And.intro rfl True.intro))))) (q1)
theorem tL_law_374 {G : gx} {b : bg} {h : ah} {Q : Option Value → ah → Prop} {x3 : Int32} {s0 : Int32} {s1 : Int32} (q1 : (s1 = s0) → V G mL_law b 18 [some (.ref 0), some (.ref 2), some (.ref 42), some (.int (x3 + (6 : Int32)))] [] h Q) (q2 : (¬ s1 = s0) → Q (some (.int (0 : Int32))) h) : V G mL_law b 374 [some (.ref 0), some (.ref 2), some (.ref 42), some (.int x3)] [.int s0, .int s1] h Q := by
  refine V_icmp_eq (t := 1329) dL_law_374 (by decide) (fun z1 => ?_) (fun z1 => ?_)
  ·
    refine V_inc dL_law_1329 ic_6 rfl (Nat.le_of_ble_eq_true rfl) ?_
    refine V_goto (t := 18) dL_law_1332 (by decide) ?_
    exact V_sub (by exact (And.intro rfl (And.intro rfl (And.intro rfl (And.intro rfl True.intro))))) (q1 z1)
  ·
    refine V_iconst dL_law_377 ic_0 ?_
    exact V_zret dL_law_378 rfl rfl (q2 z1)
theorem tL_law_388 {G : gx} {b : bg} {h : ah} {Q : Option Value → ah → Prop} {x3 : Int32} {s0 : Int32} (q1 : vp_in (x3 + (1 : Int32)) (g_n G)) (q2 : V G mL_law b 394 [some (.ref 0), some (.ref 2), some (.ref 42), some (.int x3)] [.int (g_x G (x3 + (1 : Int32)).toNatClampNeg), .ref 42, .int s0] h Q) : V G mL_law b 388 [some (.ref 0), some (.ref 2), some (.ref 42), some (.int x3)] [.int s0] h Q := by
  refine V_aload_n dL_law_388 rfl rfl ?_
  refine V_aload_n dL_law_389 rfl rfl ?_
  refine V_iload_n dL_law_390 rfl rfl ?_
  refine V_iconst dL_law_391 ic_1 ?_
  refine V_iadd dL_law_392 ?_
  refine V_sld dL_law_393 (q1) ?_
  exact V_sub (by exact (And.intro rfl (And.intro rfl (And.intro rfl (And.intro rfl True.intro))))) (q2)
theorem tL_law_397 {G : gx} {b : bg} {h : ah} {Q : Option Value → ah → Prop} {x3 : Int32} {s0 : Int32} {s1 : Int32} (q1 : (s1 = s0) → V G mL_law b 18 [some (.ref 0), some (.ref 2), some (.ref 42), some (.int (x3 + (6 : Int32)))] [] h Q) (q2 : (¬ s1 = s0) → Q (some (.int (0 : Int32))) h) : V G mL_law b 397 [some (.ref 0), some (.ref 2), some (.ref 42), some (.int x3)] [.int s0, .int s1] h Q := by
  refine V_icmp_eq (t := 1329) dL_law_397 (by decide) (fun z1 => ?_) (fun z1 => ?_)
  ·
    refine V_inc dL_law_1329 ic_6 rfl (Nat.le_of_ble_eq_true rfl) ?_
    refine V_goto (t := 18) dL_law_1332 (by decide) ?_
    exact V_sub (by exact (And.intro rfl (And.intro rfl (And.intro rfl (And.intro rfl True.intro))))) (q1 z1)
  ·
    refine V_iconst dL_law_400 ic_0 ?_
    exact V_zret dL_law_401 rfl rfl (q2 z1)
theorem tL_law_411 {G : gx} {b : bg} {h : ah} {Q : Option Value → ah → Prop} {x3 : Int32} {s0 : Int32} (q1 : vp_in (x3 + (1 : Int32)) (g_n G)) (q2 : V G mL_law b 417 [some (.ref 0), some (.ref 2), some (.ref 42), some (.int x3)] [.int (g_x G (x3 + (1 : Int32)).toNatClampNeg), .ref 42, .int s0] h Q) : V G mL_law b 411 [some (.ref 0), some (.ref 2), some (.ref 42), some (.int x3)] [.int s0] h Q := by
  refine V_aload_n dL_law_411 rfl rfl ?_
  refine V_aload_n dL_law_412 rfl rfl ?_
  refine V_iload_n dL_law_413 rfl rfl ?_
  refine V_iconst dL_law_414 ic_1 ?_
  refine V_iadd dL_law_415 ?_
  refine V_sld dL_law_416 (q1) ?_
  exact V_sub (by exact (And.intro rfl (And.intro rfl (And.intro rfl (And.intro rfl True.intro))))) (q2)
theorem tL_law_420 {G : gx} {b : bg} {h : ah} {Q : Option Value → ah → Prop} {x3 : Int32} {s0 : Int32} {s1 : Int32} (q1 : (s1 = s0) → V G mL_law b 18 [some (.ref 0), some (.ref 2), some (.ref 42), some (.int (x3 + (6 : Int32)))] [] h Q) (q2 : (¬ s1 = s0) → Q (some (.int (0 : Int32))) h) : V G mL_law b 420 [some (.ref 0), some (.ref 2), some (.ref 42), some (.int x3)] [.int s0, .int s1] h Q := by
  refine V_icmp_eq (t := 1329) dL_law_420 (by decide) (fun z1 => ?_) (fun z1 => ?_)
  ·
    refine V_inc dL_law_1329 ic_6 rfl (Nat.le_of_ble_eq_true rfl) ?_
    refine V_goto (t := 18) dL_law_1332 (by decide) ?_
    exact V_sub (by exact (And.intro rfl (And.intro rfl (And.intro rfl (And.intro rfl True.intro))))) (q1 z1)
  ·
    refine V_iconst dL_law_423 ic_0 ?_
    exact V_zret dL_law_424 rfl rfl (q2 z1)
theorem tL_law_434 {G : gx} {b : bg} {h : ah} {Q : Option Value → ah → Prop} {x3 : Int32} {s0 : Int32} (q1 : vp_in (x3 + (1 : Int32)) (g_n G)) (q2 : V G mL_law b 440 [some (.ref 0), some (.ref 2), some (.ref 42), some (.int x3)] [.int (g_x G (x3 + (1 : Int32)).toNatClampNeg), .ref 42, .int s0] h Q) : V G mL_law b 434 [some (.ref 0), some (.ref 2), some (.ref 42), some (.int x3)] [.int s0] h Q := by
  refine V_aload_n dL_law_434 rfl rfl ?_
  refine V_aload_n dL_law_435 rfl rfl ?_
  refine V_iload_n dL_law_436 rfl rfl ?_
  refine V_iconst dL_law_437 ic_1 ?_
  refine V_iadd dL_law_438 ?_
  refine V_sld dL_law_439 (q1) ?_
  exact V_sub (by exact (And.intro rfl (And.intro rfl (And.intro rfl (And.intro rfl True.intro))))) (q2)
theorem tL_law_443 {G : gx} {b : bg} {h : ah} {Q : Option Value → ah → Prop} {x3 : Int32} {s0 : Int32} {s1 : Int32} (q1 : (s1 = s0) → V G mL_law b 18 [some (.ref 0), some (.ref 2), some (.ref 42), some (.int (x3 + (6 : Int32)))] [] h Q) (q2 : (¬ s1 = s0) → Q (some (.int (0 : Int32))) h) : V G mL_law b 443 [some (.ref 0), some (.ref 2), some (.ref 42), some (.int x3)] [.int s0, .int s1] h Q := by
  refine V_icmp_eq (t := 1329) dL_law_443 (by decide) (fun z1 => ?_) (fun z1 => ?_)
  ·
    refine V_inc dL_law_1329 ic_6 rfl (Nat.le_of_ble_eq_true rfl) ?_
    refine V_goto (t := 18) dL_law_1332 (by decide) ?_
    exact V_sub (by exact (And.intro rfl (And.intro rfl (And.intro rfl (And.intro rfl True.intro))))) (q1 z1)
  ·
    refine V_iconst dL_law_446 ic_0 ?_
    exact V_zret dL_law_447 rfl rfl (q2 z1)
theorem tL_law_477 {G : gx} {b : bg} {h : ah} {Q : Option Value → ah → Prop} {x3 : Int32} {s0 : Int32} (q1 : vp_in (x3 + (1 : Int32)) (g_n G)) (q2 : vp_in (x3 + (2 : Int32)) (g_n G)) (q3 : vp_in (x3 + (3 : Int32)) (g_n G)) (q4 : vp_in (x3 + (4 : Int32)) (g_n G)) (q5 : vp_in (x3 + (5 : Int32)) (g_n G)) (q6 : V G mL_law b 503 [some (.ref 0), some (.ref 2), some (.ref 42), some (.int x3)] [.int (g_x G (x3 + (5 : Int32)).toNatClampNeg), .int (g_x G (x3 + (4 : Int32)).toNatClampNeg), .int (g_x G (x3 + (3 : Int32)).toNatClampNeg), .int (g_x G (x3 + (2 : Int32)).toNatClampNeg), .int (g_x G (x3 + (1 : Int32)).toNatClampNeg), .ref 42, .int s0] h Q) : V G mL_law b 477 [some (.ref 0), some (.ref 2), some (.ref 42), some (.int x3)] [.int s0] h Q := by
  refine V_aload_n dL_law_477 rfl rfl ?_
  refine V_aload_n dL_law_478 rfl rfl ?_
  refine V_iload_n dL_law_479 rfl rfl ?_
  refine V_iconst dL_law_480 ic_1 ?_
  refine V_iadd dL_law_481 ?_
  refine V_sld dL_law_482 (q1) ?_
  refine V_aload_n dL_law_483 rfl rfl ?_
  refine V_iload_n dL_law_484 rfl rfl ?_
  refine V_iconst dL_law_485 ic_2 ?_
  refine V_iadd dL_law_486 ?_
  refine V_sld dL_law_487 (q2) ?_
  refine V_aload_n dL_law_488 rfl rfl ?_
  refine V_iload_n dL_law_489 rfl rfl ?_
  refine V_iconst dL_law_490 ic_3 ?_
  refine V_iadd dL_law_491 ?_
  refine V_sld dL_law_492 (q3) ?_
  refine V_aload_n dL_law_493 rfl rfl ?_
  refine V_iload_n dL_law_494 rfl rfl ?_
  refine V_iconst dL_law_495 ic_4 ?_
  refine V_iadd dL_law_496 ?_
  refine V_sld dL_law_497 (q4) ?_
  refine V_aload_n dL_law_498 rfl rfl ?_
  refine V_iload_n dL_law_499 rfl rfl ?_
  refine V_iconst dL_law_500 ic_5 ?_
  refine V_iadd dL_law_501 ?_
  refine V_sld dL_law_502 (q5) ?_
  exact V_sub (by exact (And.intro rfl (And.intro rfl (And.intro rfl (And.intro rfl True.intro))))) (q6)
theorem tL_law_506 {G : gx} {b : bg} {h : ah} {Q : Option Value → ah → Prop} {x3 : Int32} {s0 : Int32} {s1 : Int32} (q1 : (s1 = s0) → V G mL_law b 18 [some (.ref 0), some (.ref 2), some (.ref 42), some (.int (x3 + (6 : Int32)))] [] h Q) (q2 : (¬ s1 = s0) → Q (some (.int (0 : Int32))) h) : V G mL_law b 506 [some (.ref 0), some (.ref 2), some (.ref 42), some (.int x3)] [.int s0, .int s1] h Q := by
  refine V_icmp_eq (t := 1329) dL_law_506 (by decide) (fun z1 => ?_) (fun z1 => ?_)
  ·
    refine V_inc dL_law_1329 ic_6 rfl (Nat.le_of_ble_eq_true rfl) ?_
    refine V_goto (t := 18) dL_law_1332 (by decide) ?_
    exact V_sub (by exact (And.intro rfl (And.intro rfl (And.intro rfl (And.intro rfl True.intro))))) (q1 z1)
  ·
    refine V_iconst dL_law_509 ic_0 ?_
    exact V_zret dL_law_510 rfl rfl (q2 z1)
theorem tL_law_525 {G : gx} {b : bg} {h : ah} {Q : Option Value → ah → Prop} {x3 : Int32} {s0 : Int32} (q1 : vp_in (x3 + (1 : Int32)) (g_n G)) (q2 : vp_in (x3 + (2 : Int32)) (g_n G)) (q3 : V G mL_law b 536 [some (.ref 0), some (.ref 2), some (.ref 42), some (.int x3)] [.int (g_x G (x3 + (2 : Int32)).toNatClampNeg), .int (g_x G (x3 + (1 : Int32)).toNatClampNeg), .ref 42, .int s0] h Q) : V G mL_law b 525 [some (.ref 0), some (.ref 2), some (.ref 42), some (.int x3)] [.int s0] h Q := by
  refine V_aload_n dL_law_525 rfl rfl ?_
  refine V_aload_n dL_law_526 rfl rfl ?_
  refine V_iload_n dL_law_527 rfl rfl ?_
  refine V_iconst dL_law_528 ic_1 ?_
  refine V_iadd dL_law_529 ?_
  refine V_sld dL_law_530 (q1) ?_
  refine V_aload_n dL_law_531 rfl rfl ?_
  refine V_iload_n dL_law_532 rfl rfl ?_
  refine V_iconst dL_law_533 ic_2 ?_
  refine V_iadd dL_law_534 ?_
  refine V_sld dL_law_535 (q2) ?_
  exact V_sub (by exact (And.intro rfl (And.intro rfl (And.intro rfl (And.intro rfl True.intro))))) (q3)
theorem tL_law_539 {G : gx} {b : bg} {h : ah} {Q : Option Value → ah → Prop} {x3 : Int32} {s0 : Int32} {s1 : Int32} (q1 : (s1 = s0) → V G mL_law b 18 [some (.ref 0), some (.ref 2), some (.ref 42), some (.int (x3 + (6 : Int32)))] [] h Q) (q2 : (¬ s1 = s0) → Q (some (.int (0 : Int32))) h) : V G mL_law b 539 [some (.ref 0), some (.ref 2), some (.ref 42), some (.int x3)] [.int s0, .int s1] h Q := by
  refine V_icmp_eq (t := 1329) dL_law_539 (by decide) (fun z1 => ?_) (fun z1 => ?_)
  ·
    refine V_inc dL_law_1329 ic_6 rfl (Nat.le_of_ble_eq_true rfl) ?_
    refine V_goto (t := 18) dL_law_1332 (by decide) ?_
    exact V_sub (by exact (And.intro rfl (And.intro rfl (And.intro rfl (And.intro rfl True.intro))))) (q1 z1)
  ·
    refine V_iconst dL_law_542 ic_0 ?_
    exact V_zret dL_law_543 rfl rfl (q2 z1)
theorem tL_law_553 {G : gx} {b : bg} {h : ah} {Q : Option Value → ah → Prop} {x3 : Int32} {s0 : Int32} (q1 : vp_in (x3 + (1 : Int32)) (g_n G)) (q2 : V G mL_law b 559 [some (.ref 0), some (.ref 2), some (.ref 42), some (.int x3)] [.int (g_x G (x3 + (1 : Int32)).toNatClampNeg), .ref 42, .int s0] h Q) : V G mL_law b 553 [some (.ref 0), some (.ref 2), some (.ref 42), some (.int x3)] [.int s0] h Q := by
  refine V_aload_n dL_law_553 rfl rfl ?_
  refine V_aload_n dL_law_554 rfl rfl ?_
  refine V_iload_n dL_law_555 rfl rfl ?_
  refine V_iconst dL_law_556 ic_1 ?_
  refine V_iadd dL_law_557 ?_
  refine V_sld dL_law_558 (q1) ?_
  exact V_sub (by exact (And.intro rfl (And.intro rfl (And.intro rfl (And.intro rfl True.intro))))) (q2)
theorem tL_law_562 {G : gx} {b : bg} {h : ah} {Q : Option Value → ah → Prop} {x3 : Int32} {s0 : Int32} {s1 : Int32} (q1 : (s1 = s0) → V G mL_law b 18 [some (.ref 0), some (.ref 2), some (.ref 42), some (.int (x3 + (6 : Int32)))] [] h Q) (q2 : (¬ s1 = s0) → Q (some (.int (0 : Int32))) h) : V G mL_law b 562 [some (.ref 0), some (.ref 2), some (.ref 42), some (.int x3)] [.int s0, .int s1] h Q := by
  refine V_icmp_eq (t := 1329) dL_law_562 (by decide) (fun z1 => ?_) (fun z1 => ?_)
  ·
    refine V_inc dL_law_1329 ic_6 rfl (Nat.le_of_ble_eq_true rfl) ?_
    refine V_goto (t := 18) dL_law_1332 (by decide) ?_
    exact V_sub (by exact (And.intro rfl (And.intro rfl (And.intro rfl (And.intro rfl True.intro))))) (q1 z1)
  ·
    refine V_iconst dL_law_565 ic_0 ?_
    exact V_zret dL_law_566 rfl rfl (q2 z1)
theorem tL_law_576 {G : gx} {b : bg} {h : ah} {Q : Option Value → ah → Prop} {x3 : Int32} {s0 : Int32} (q1 : vp_in (x3 + (1 : Int32)) (g_n G)) (q2 : V G mL_law b 582 [some (.ref 0), some (.ref 2), some (.ref 42), some (.int x3)] [.int (g_x G (x3 + (1 : Int32)).toNatClampNeg), .ref 42, .int s0] h Q) : V G mL_law b 576 [some (.ref 0), some (.ref 2), some (.ref 42), some (.int x3)] [.int s0] h Q := by
  refine V_aload_n dL_law_576 rfl rfl ?_
  refine V_aload_n dL_law_577 rfl rfl ?_
  refine V_iload_n dL_law_578 rfl rfl ?_
  refine V_iconst dL_law_579 ic_1 ?_
  refine V_iadd dL_law_580 ?_
  refine V_sld dL_law_581 (q1) ?_
  exact V_sub (by exact (And.intro rfl (And.intro rfl (And.intro rfl (And.intro rfl True.intro))))) (q2)
theorem tL_law_585 {G : gx} {b : bg} {h : ah} {Q : Option Value → ah → Prop} {x3 : Int32} {s0 : Int32} {s1 : Int32} (q1 : (s1 = s0) → V G mL_law b 18 [some (.ref 0), some (.ref 2), some (.ref 42), some (.int (x3 + (6 : Int32)))] [] h Q) (q2 : (¬ s1 = s0) → Q (some (.int (0 : Int32))) h) : V G mL_law b 585 [some (.ref 0), some (.ref 2), some (.ref 42), some (.int x3)] [.int s0, .int s1] h Q := by
  refine V_icmp_eq (t := 1329) dL_law_585 (by decide) (fun z1 => ?_) (fun z1 => ?_)
  ·
    refine V_inc dL_law_1329 ic_6 rfl (Nat.le_of_ble_eq_true rfl) ?_
    refine V_goto (t := 18) dL_law_1332 (by decide) ?_
    exact V_sub (by exact (And.intro rfl (And.intro rfl (And.intro rfl (And.intro rfl True.intro))))) (q1 z1)
  ·
    refine V_iconst dL_law_588 ic_0 ?_
    exact V_zret dL_law_589 rfl rfl (q2 z1)
theorem tL_law_594 {G : gx} {b : bg} {h : ah} {Q : Option Value → ah → Prop} {x3 : Int32} {s0 : Int32} (q1 : V G mL_law b 595 [some (.ref 0), some (.ref 2), some (.ref 42), some (.int x3)] [.ref 42, .int s0] h Q) : V G mL_law b 594 [some (.ref 0), some (.ref 2), some (.ref 42), some (.int x3)] [.int s0] h Q := by
  refine V_aload_n dL_law_594 rfl rfl ?_
  exact V_sub (by exact (And.intro rfl (And.intro rfl (And.intro rfl (And.intro rfl True.intro))))) (q1)
theorem tL_law_598 {G : gx} {b : bg} {h : ah} {Q : Option Value → ah → Prop} {x3 : Int32} {s0 : Int32} {s1 : Int32} (q1 : (s1 = s0) → V G mL_law b 18 [some (.ref 0), some (.ref 2), some (.ref 42), some (.int (x3 + (6 : Int32)))] [] h Q) (q2 : (¬ s1 = s0) → Q (some (.int (0 : Int32))) h) : V G mL_law b 598 [some (.ref 0), some (.ref 2), some (.ref 42), some (.int x3)] [.int s0, .int s1] h Q := by
  refine V_icmp_eq (t := 1329) dL_law_598 (by decide) (fun z1 => ?_) (fun z1 => ?_)
  ·
    refine V_inc dL_law_1329 ic_6 rfl (Nat.le_of_ble_eq_true rfl) ?_
    refine V_goto (t := 18) dL_law_1332 (by decide) ?_
    exact V_sub (by exact (And.intro rfl (And.intro rfl (And.intro rfl (And.intro rfl True.intro))))) (q1 z1)
  ·
    refine V_iconst dL_law_601 ic_0 ?_
    exact V_zret dL_law_602 rfl rfl (q2 z1)
theorem tL_law_617 {G : gx} {b : bg} {h : ah} {Q : Option Value → ah → Prop} {x3 : Int32} {s0 : Int32} (q1 : vp_in (x3 + (1 : Int32)) (g_n G)) (q2 : vp_in (x3 + (2 : Int32)) (g_n G)) (q3 : V G mL_law b 628 [some (.ref 0), some (.ref 2), some (.ref 42), some (.int x3)] [.int (g_x G (x3 + (2 : Int32)).toNatClampNeg), .int (g_x G (x3 + (1 : Int32)).toNatClampNeg), .ref 42, .int s0] h Q) : V G mL_law b 617 [some (.ref 0), some (.ref 2), some (.ref 42), some (.int x3)] [.int s0] h Q := by
  refine V_aload_n dL_law_617 rfl rfl ?_
  refine V_aload_n dL_law_618 rfl rfl ?_
  refine V_iload_n dL_law_619 rfl rfl ?_
  refine V_iconst dL_law_620 ic_1 ?_
  refine V_iadd dL_law_621 ?_
  refine V_sld dL_law_622 (q1) ?_
  refine V_aload_n dL_law_623 rfl rfl ?_
  refine V_iload_n dL_law_624 rfl rfl ?_
  refine V_iconst dL_law_625 ic_2 ?_
  refine V_iadd dL_law_626 ?_
  refine V_sld dL_law_627 (q2) ?_
  exact V_sub (by exact (And.intro rfl (And.intro rfl (And.intro rfl (And.intro rfl True.intro))))) (q3)
theorem tL_law_631 {G : gx} {b : bg} {h : ah} {Q : Option Value → ah → Prop} {x3 : Int32} {s0 : Int32} {s1 : Int32} (q1 : (s1 = s0) → V G mL_law b 18 [some (.ref 0), some (.ref 2), some (.ref 42), some (.int (x3 + (6 : Int32)))] [] h Q) (q2 : (¬ s1 = s0) → Q (some (.int (0 : Int32))) h) : V G mL_law b 631 [some (.ref 0), some (.ref 2), some (.ref 42), some (.int x3)] [.int s0, .int s1] h Q := by
  refine V_icmp_eq (t := 1329) dL_law_631 (by decide) (fun z1 => ?_) (fun z1 => ?_)
  ·
    refine V_inc dL_law_1329 ic_6 rfl (Nat.le_of_ble_eq_true rfl) ?_
    refine V_goto (t := 18) dL_law_1332 (by decide) ?_
    exact V_sub (by exact (And.intro rfl (And.intro rfl (And.intro rfl (And.intro rfl True.intro))))) (q1 z1)
  ·
    refine V_iconst dL_law_634 ic_0 ?_
    exact V_zret dL_law_635 rfl rfl (q2 z1)
theorem tL_law_640 {G : gx} {b : bg} {h : ah} {Q : Option Value → ah → Prop} {x3 : Int32} {s0 : Int32} (q1 : V G mL_law b 641 [some (.ref 0), some (.ref 2), some (.ref 42), some (.int x3)] [.ref 42, .int s0] h Q) : V G mL_law b 640 [some (.ref 0), some (.ref 2), some (.ref 42), some (.int x3)] [.int s0] h Q := by
  refine V_aload_n dL_law_640 rfl rfl ?_
  exact V_sub (by exact (And.intro rfl (And.intro rfl (And.intro rfl (And.intro rfl True.intro))))) (q1)
theorem tL_law_644 {G : gx} {b : bg} {h : ah} {Q : Option Value → ah → Prop} {x3 : Int32} {s0 : Int32} {s1 : Int32} (q1 : (s1 = s0) → V G mL_law b 18 [some (.ref 0), some (.ref 2), some (.ref 42), some (.int (x3 + (6 : Int32)))] [] h Q) (q2 : (¬ s1 = s0) → Q (some (.int (0 : Int32))) h) : V G mL_law b 644 [some (.ref 0), some (.ref 2), some (.ref 42), some (.int x3)] [.int s0, .int s1] h Q := by
  refine V_icmp_eq (t := 1329) dL_law_644 (by decide) (fun z1 => ?_) (fun z1 => ?_)
  ·
    refine V_inc dL_law_1329 ic_6 rfl (Nat.le_of_ble_eq_true rfl) ?_
    refine V_goto (t := 18) dL_law_1332 (by decide) ?_
    exact V_sub (by exact (And.intro rfl (And.intro rfl (And.intro rfl (And.intro rfl True.intro))))) (q1 z1)
  ·
    refine V_iconst dL_law_647 ic_0 ?_
    exact V_zret dL_law_648 rfl rfl (q2 z1)
theorem tL_law_653 {G : gx} {b : bg} {h : ah} {Q : Option Value → ah → Prop} {x3 : Int32} {s0 : Int32} (q1 : V G mL_law b 654 [some (.ref 0), some (.ref 2), some (.ref 42), some (.int x3)] [.ref 42, .int s0] h Q) : V G mL_law b 653 [some (.ref 0), some (.ref 2), some (.ref 42), some (.int x3)] [.int s0] h Q := by
  refine V_aload_n dL_law_653 rfl rfl ?_
  exact V_sub (by exact (And.intro rfl (And.intro rfl (And.intro rfl (And.intro rfl True.intro))))) (q1)
theorem tL_law_657 {G : gx} {b : bg} {h : ah} {Q : Option Value → ah → Prop} {x3 : Int32} {s0 : Int32} {s1 : Int32} (q1 : (s1 = s0) → V G mL_law b 18 [some (.ref 0), some (.ref 2), some (.ref 42), some (.int (x3 + (6 : Int32)))] [] h Q) (q2 : (¬ s1 = s0) → Q (some (.int (0 : Int32))) h) : V G mL_law b 657 [some (.ref 0), some (.ref 2), some (.ref 42), some (.int x3)] [.int s0, .int s1] h Q := by
  refine V_icmp_eq (t := 1329) dL_law_657 (by decide) (fun z1 => ?_) (fun z1 => ?_)
  ·
    refine V_inc dL_law_1329 ic_6 rfl (Nat.le_of_ble_eq_true rfl) ?_
    refine V_goto (t := 18) dL_law_1332 (by decide) ?_
    exact V_sub (by exact (And.intro rfl (And.intro rfl (And.intro rfl (And.intro rfl True.intro))))) (q1 z1)
  ·
    refine V_iconst dL_law_660 ic_0 ?_
    exact V_zret dL_law_661 rfl rfl (q2 z1)
theorem tL_law_671 {G : gx} {b : bg} {h : ah} {Q : Option Value → ah → Prop} {x3 : Int32} {s0 : Int32} (q1 : vp_in (x3 + (1 : Int32)) (g_n G)) (q2 : V G mL_law b 677 [some (.ref 0), some (.ref 2), some (.ref 42), some (.int x3)] [.int (g_x G (x3 + (1 : Int32)).toNatClampNeg), .ref 42, .int s0] h Q) : V G mL_law b 671 [some (.ref 0), some (.ref 2), some (.ref 42), some (.int x3)] [.int s0] h Q := by
  refine V_aload_n dL_law_671 rfl rfl ?_
  refine V_aload_n dL_law_672 rfl rfl ?_
  refine V_iload_n dL_law_673 rfl rfl ?_
  refine V_iconst dL_law_674 ic_1 ?_
  refine V_iadd dL_law_675 ?_
  refine V_sld dL_law_676 (q1) ?_
  exact V_sub (by exact (And.intro rfl (And.intro rfl (And.intro rfl (And.intro rfl True.intro))))) (q2)
theorem tL_law_680 {G : gx} {b : bg} {h : ah} {Q : Option Value → ah → Prop} {x3 : Int32} {s0 : Int32} {s1 : Int32} (q1 : (s1 = s0) → V G mL_law b 18 [some (.ref 0), some (.ref 2), some (.ref 42), some (.int (x3 + (6 : Int32)))] [] h Q) (q2 : (¬ s1 = s0) → Q (some (.int (0 : Int32))) h) : V G mL_law b 680 [some (.ref 0), some (.ref 2), some (.ref 42), some (.int x3)] [.int s0, .int s1] h Q := by
  refine V_icmp_eq (t := 1329) dL_law_680 (by decide) (fun z1 => ?_) (fun z1 => ?_)
  ·
    refine V_inc dL_law_1329 ic_6 rfl (Nat.le_of_ble_eq_true rfl) ?_
    refine V_goto (t := 18) dL_law_1332 (by decide) ?_
    exact V_sub (by exact (And.intro rfl (And.intro rfl (And.intro rfl (And.intro rfl True.intro))))) (q1 z1)
  ·
    refine V_iconst dL_law_683 ic_0 ?_
    exact V_zret dL_law_684 rfl rfl (q2 z1)
theorem tL_law_699 {G : gx} {b : bg} {h : ah} {Q : Option Value → ah → Prop} {x3 : Int32} {s0 : Int32} (q1 : vp_in (x3 + (1 : Int32)) (g_n G)) (q2 : vp_in (x3 + (2 : Int32)) (g_n G)) (q3 : V G mL_law b 710 [some (.ref 0), some (.ref 2), some (.ref 42), some (.int x3)] [.int (g_x G (x3 + (2 : Int32)).toNatClampNeg), .int (g_x G (x3 + (1 : Int32)).toNatClampNeg), .ref 42, .int s0] h Q) : V G mL_law b 699 [some (.ref 0), some (.ref 2), some (.ref 42), some (.int x3)] [.int s0] h Q := by
  refine V_aload_n dL_law_699 rfl rfl ?_
  refine V_aload_n dL_law_700 rfl rfl ?_
  refine V_iload_n dL_law_701 rfl rfl ?_
  refine V_iconst dL_law_702 ic_1 ?_
  refine V_iadd dL_law_703 ?_
  refine V_sld dL_law_704 (q1) ?_
  refine V_aload_n dL_law_705 rfl rfl ?_
  refine V_iload_n dL_law_706 rfl rfl ?_
  refine V_iconst dL_law_707 ic_2 ?_
  refine V_iadd dL_law_708 ?_
  refine V_sld dL_law_709 (q2) ?_
  exact V_sub (by exact (And.intro rfl (And.intro rfl (And.intro rfl (And.intro rfl True.intro))))) (q3)
theorem tL_law_713 {G : gx} {b : bg} {h : ah} {Q : Option Value → ah → Prop} {x3 : Int32} {s0 : Int32} {s1 : Int32} (q1 : (s1 = s0) → V G mL_law b 18 [some (.ref 0), some (.ref 2), some (.ref 42), some (.int (x3 + (6 : Int32)))] [] h Q) (q2 : (¬ s1 = s0) → Q (some (.int (0 : Int32))) h) : V G mL_law b 713 [some (.ref 0), some (.ref 2), some (.ref 42), some (.int x3)] [.int s0, .int s1] h Q := by
  refine V_icmp_eq (t := 1329) dL_law_713 (by decide) (fun z1 => ?_) (fun z1 => ?_)
  ·
    refine V_inc dL_law_1329 ic_6 rfl (Nat.le_of_ble_eq_true rfl) ?_
    refine V_goto (t := 18) dL_law_1332 (by decide) ?_
    exact V_sub (by exact (And.intro rfl (And.intro rfl (And.intro rfl (And.intro rfl True.intro))))) (q1 z1)
  ·
    refine V_iconst dL_law_716 ic_0 ?_
    exact V_zret dL_law_717 rfl rfl (q2 z1)
theorem tL_law_722 {G : gx} {b : bg} {h : ah} {Q : Option Value → ah → Prop} {x3 : Int32} {s0 : Int32} (q1 : V G mL_law b 723 [some (.ref 0), some (.ref 2), some (.ref 42), some (.int x3)] [.ref 42, .int s0] h Q) : V G mL_law b 722 [some (.ref 0), some (.ref 2), some (.ref 42), some (.int x3)] [.int s0] h Q := by
  refine V_aload_n dL_law_722 rfl rfl ?_
  exact V_sub (by exact (And.intro rfl (And.intro rfl (And.intro rfl (And.intro rfl True.intro))))) (q1)
theorem tL_law_726 {G : gx} {b : bg} {h : ah} {Q : Option Value → ah → Prop} {x3 : Int32} {s0 : Int32} {s1 : Int32} (q1 : (s1 = s0) → V G mL_law b 18 [some (.ref 0), some (.ref 2), some (.ref 42), some (.int (x3 + (6 : Int32)))] [] h Q) (q2 : (¬ s1 = s0) → Q (some (.int (0 : Int32))) h) : V G mL_law b 726 [some (.ref 0), some (.ref 2), some (.ref 42), some (.int x3)] [.int s0, .int s1] h Q := by
  refine V_icmp_eq (t := 1329) dL_law_726 (by decide) (fun z1 => ?_) (fun z1 => ?_)
  ·
    refine V_inc dL_law_1329 ic_6 rfl (Nat.le_of_ble_eq_true rfl) ?_
    refine V_goto (t := 18) dL_law_1332 (by decide) ?_
    exact V_sub (by exact (And.intro rfl (And.intro rfl (And.intro rfl (And.intro rfl True.intro))))) (q1 z1)
  ·
    refine V_iconst dL_law_729 ic_0 ?_
    exact V_zret dL_law_730 rfl rfl (q2 z1)
theorem tL_law_740 {G : gx} {b : bg} {h : ah} {Q : Option Value → ah → Prop} {x3 : Int32} {s0 : Int32} (q1 : vp_in (x3 + (1 : Int32)) (g_n G)) (q2 : V G mL_law b 746 [some (.ref 0), some (.ref 2), some (.ref 42), some (.int x3)] [.int (g_x G (x3 + (1 : Int32)).toNatClampNeg), .ref 42, .int s0] h Q) : V G mL_law b 740 [some (.ref 0), some (.ref 2), some (.ref 42), some (.int x3)] [.int s0] h Q := by
  refine V_aload_n dL_law_740 rfl rfl ?_
  refine V_aload_n dL_law_741 rfl rfl ?_
  refine V_iload_n dL_law_742 rfl rfl ?_
  refine V_iconst dL_law_743 ic_1 ?_
  refine V_iadd dL_law_744 ?_
  refine V_sld dL_law_745 (q1) ?_
  exact V_sub (by exact (And.intro rfl (And.intro rfl (And.intro rfl (And.intro rfl True.intro))))) (q2)
theorem tL_law_749 {G : gx} {b : bg} {h : ah} {Q : Option Value → ah → Prop} {x3 : Int32} {s0 : Int32} {s1 : Int32} (q1 : (s1 = s0) → V G mL_law b 18 [some (.ref 0), some (.ref 2), some (.ref 42), some (.int (x3 + (6 : Int32)))] [] h Q) (q2 : (¬ s1 = s0) → Q (some (.int (0 : Int32))) h) : V G mL_law b 749 [some (.ref 0), some (.ref 2), some (.ref 42), some (.int x3)] [.int s0, .int s1] h Q := by
  refine V_icmp_eq (t := 1329) dL_law_749 (by decide) (fun z1 => ?_) (fun z1 => ?_)
  ·
    refine V_inc dL_law_1329 ic_6 rfl (Nat.le_of_ble_eq_true rfl) ?_
    refine V_goto (t := 18) dL_law_1332 (by decide) ?_
    exact V_sub (by exact (And.intro rfl (And.intro rfl (And.intro rfl (And.intro rfl True.intro))))) (q1 z1)
  ·
    refine V_iconst dL_law_752 ic_0 ?_
    exact V_zret dL_law_753 rfl rfl (q2 z1)
theorem tL_law_763 {G : gx} {b : bg} {h : ah} {Q : Option Value → ah → Prop} {x3 : Int32} {s0 : Int32} (q1 : vp_in (x3 + (1 : Int32)) (g_n G)) (q2 : V G mL_law b 769 [some (.ref 0), some (.ref 2), some (.ref 42), some (.int x3)] [.int (g_x G (x3 + (1 : Int32)).toNatClampNeg), .ref 42, .int s0] h Q) : V G mL_law b 763 [some (.ref 0), some (.ref 2), some (.ref 42), some (.int x3)] [.int s0] h Q := by
  refine V_aload_n dL_law_763 rfl rfl ?_
  refine V_aload_n dL_law_764 rfl rfl ?_
  refine V_iload_n dL_law_765 rfl rfl ?_
  refine V_iconst dL_law_766 ic_1 ?_
  refine V_iadd dL_law_767 ?_
  refine V_sld dL_law_768 (q1) ?_
  exact V_sub (by exact (And.intro rfl (And.intro rfl (And.intro rfl (And.intro rfl True.intro))))) (q2)
theorem tL_law_772 {G : gx} {b : bg} {h : ah} {Q : Option Value → ah → Prop} {x3 : Int32} {s0 : Int32} {s1 : Int32} (q1 : (s1 = s0) → V G mL_law b 18 [some (.ref 0), some (.ref 2), some (.ref 42), some (.int (x3 + (6 : Int32)))] [] h Q) (q2 : (¬ s1 = s0) → Q (some (.int (0 : Int32))) h) : V G mL_law b 772 [some (.ref 0), some (.ref 2), some (.ref 42), some (.int x3)] [.int s0, .int s1] h Q := by
  refine V_icmp_eq (t := 1329) dL_law_772 (by decide) (fun z1 => ?_) (fun z1 => ?_)
  ·
    refine V_inc dL_law_1329 ic_6 rfl (Nat.le_of_ble_eq_true rfl) ?_
    refine V_goto (t := 18) dL_law_1332 (by decide) ?_
    exact V_sub (by exact (And.intro rfl (And.intro rfl (And.intro rfl (And.intro rfl True.intro))))) (q1 z1)
  ·
    refine V_iconst dL_law_775 ic_0 ?_
    exact V_zret dL_law_776 rfl rfl (q2 z1)
theorem tL_law_786 {G : gx} {b : bg} {h : ah} {Q : Option Value → ah → Prop} {x3 : Int32} {s0 : Int32} (q1 : vp_in (x3 + (1 : Int32)) (g_n G)) (q2 : V G mL_law b 792 [some (.ref 0), some (.ref 2), some (.ref 42), some (.int x3)] [.int (g_x G (x3 + (1 : Int32)).toNatClampNeg), .ref 42, .int s0] h Q) : V G mL_law b 786 [some (.ref 0), some (.ref 2), some (.ref 42), some (.int x3)] [.int s0] h Q := by
  refine V_aload_n dL_law_786 rfl rfl ?_
  refine V_aload_n dL_law_787 rfl rfl ?_
  refine V_iload_n dL_law_788 rfl rfl ?_
  refine V_iconst dL_law_789 ic_1 ?_
  refine V_iadd dL_law_790 ?_
  refine V_sld dL_law_791 (q1) ?_
  exact V_sub (by exact (And.intro rfl (And.intro rfl (And.intro rfl (And.intro rfl True.intro))))) (q2)
theorem tL_law_795 {G : gx} {b : bg} {h : ah} {Q : Option Value → ah → Prop} {x3 : Int32} {s0 : Int32} {s1 : Int32} (q1 : (s1 = s0) → V G mL_law b 18 [some (.ref 0), some (.ref 2), some (.ref 42), some (.int (x3 + (6 : Int32)))] [] h Q) (q2 : (¬ s1 = s0) → Q (some (.int (0 : Int32))) h) : V G mL_law b 795 [some (.ref 0), some (.ref 2), some (.ref 42), some (.int x3)] [.int s0, .int s1] h Q := by
  refine V_icmp_eq (t := 1329) dL_law_795 (by decide) (fun z1 => ?_) (fun z1 => ?_)
  ·
    refine V_inc dL_law_1329 ic_6 rfl (Nat.le_of_ble_eq_true rfl) ?_
    refine V_goto (t := 18) dL_law_1332 (by decide) ?_
    exact V_sub (by exact (And.intro rfl (And.intro rfl (And.intro rfl (And.intro rfl True.intro))))) (q1 z1)
  ·
    refine V_iconst dL_law_798 ic_0 ?_
    exact V_zret dL_law_799 rfl rfl (q2 z1)
theorem tL_law_814 {G : gx} {b : bg} {h : ah} {Q : Option Value → ah → Prop} {x3 : Int32} {s0 : Int32} (q1 : vp_in (x3 + (1 : Int32)) (g_n G)) (q2 : vp_in (x3 + (2 : Int32)) (g_n G)) (q3 : V G mL_law b 825 [some (.ref 0), some (.ref 2), some (.ref 42), some (.int x3)] [.int (g_x G (x3 + (2 : Int32)).toNatClampNeg), .int (g_x G (x3 + (1 : Int32)).toNatClampNeg), .ref 42, .int s0] h Q) : V G mL_law b 814 [some (.ref 0), some (.ref 2), some (.ref 42), some (.int x3)] [.int s0] h Q := by
  refine V_aload_n dL_law_814 rfl rfl ?_
  refine V_aload_n dL_law_815 rfl rfl ?_
  refine V_iload_n dL_law_816 rfl rfl ?_
  refine V_iconst dL_law_817 ic_1 ?_
  refine V_iadd dL_law_818 ?_
  refine V_sld dL_law_819 (q1) ?_
  refine V_aload_n dL_law_820 rfl rfl ?_
  refine V_iload_n dL_law_821 rfl rfl ?_
  refine V_iconst dL_law_822 ic_2 ?_
  refine V_iadd dL_law_823 ?_
  refine V_sld dL_law_824 (q2) ?_
  exact V_sub (by exact (And.intro rfl (And.intro rfl (And.intro rfl (And.intro rfl True.intro))))) (q3)
theorem tL_law_828 {G : gx} {b : bg} {h : ah} {Q : Option Value → ah → Prop} {x3 : Int32} {s0 : Int32} {s1 : Int32} (q1 : (s1 = s0) → V G mL_law b 18 [some (.ref 0), some (.ref 2), some (.ref 42), some (.int (x3 + (6 : Int32)))] [] h Q) (q2 : (¬ s1 = s0) → Q (some (.int (0 : Int32))) h) : V G mL_law b 828 [some (.ref 0), some (.ref 2), some (.ref 42), some (.int x3)] [.int s0, .int s1] h Q := by
  refine V_icmp_eq (t := 1329) dL_law_828 (by decide) (fun z1 => ?_) (fun z1 => ?_)
  ·
    refine V_inc dL_law_1329 ic_6 rfl (Nat.le_of_ble_eq_true rfl) ?_
    refine V_goto (t := 18) dL_law_1332 (by decide) ?_
    exact V_sub (by exact (And.intro rfl (And.intro rfl (And.intro rfl (And.intro rfl True.intro))))) (q1 z1)
  ·
    refine V_iconst dL_law_831 ic_0 ?_
    exact V_zret dL_law_832 rfl rfl (q2 z1)
theorem tL_law_852 {G : gx} {b : bg} {h : ah} {Q : Option Value → ah → Prop} {x3 : Int32} {s0 : Int32} (q1 : vp_in (x3 + (1 : Int32)) (g_n G)) (q2 : vp_in (x3 + (2 : Int32)) (g_n G)) (q3 : vp_in (x3 + (3 : Int32)) (g_n G)) (q4 : V G mL_law b 868 [some (.ref 0), some (.ref 2), some (.ref 42), some (.int x3)] [.int (g_x G (x3 + (3 : Int32)).toNatClampNeg), .int (g_x G (x3 + (2 : Int32)).toNatClampNeg), .int (g_x G (x3 + (1 : Int32)).toNatClampNeg), .ref 42, .int s0] h Q) : V G mL_law b 852 [some (.ref 0), some (.ref 2), some (.ref 42), some (.int x3)] [.int s0] h Q := by
  refine V_aload_n dL_law_852 rfl rfl ?_
  refine V_aload_n dL_law_853 rfl rfl ?_
  refine V_iload_n dL_law_854 rfl rfl ?_
  refine V_iconst dL_law_855 ic_1 ?_
  refine V_iadd dL_law_856 ?_
  refine V_sld dL_law_857 (q1) ?_
  refine V_aload_n dL_law_858 rfl rfl ?_
  refine V_iload_n dL_law_859 rfl rfl ?_
  refine V_iconst dL_law_860 ic_2 ?_
  refine V_iadd dL_law_861 ?_
  refine V_sld dL_law_862 (q2) ?_
  refine V_aload_n dL_law_863 rfl rfl ?_
  refine V_iload_n dL_law_864 rfl rfl ?_
  refine V_iconst dL_law_865 ic_3 ?_
  refine V_iadd dL_law_866 ?_
  refine V_sld dL_law_867 (q3) ?_
  exact V_sub (by exact (And.intro rfl (And.intro rfl (And.intro rfl (And.intro rfl True.intro))))) (q4)
theorem tL_law_871 {G : gx} {b : bg} {h : ah} {Q : Option Value → ah → Prop} {x3 : Int32} {s0 : Int32} {s1 : Int32} (q1 : (s1 = s0) → V G mL_law b 18 [some (.ref 0), some (.ref 2), some (.ref 42), some (.int (x3 + (6 : Int32)))] [] h Q) (q2 : (¬ s1 = s0) → Q (some (.int (0 : Int32))) h) : V G mL_law b 871 [some (.ref 0), some (.ref 2), some (.ref 42), some (.int x3)] [.int s0, .int s1] h Q := by
  refine V_icmp_eq (t := 1329) dL_law_871 (by decide) (fun z1 => ?_) (fun z1 => ?_)
  ·
    refine V_inc dL_law_1329 ic_6 rfl (Nat.le_of_ble_eq_true rfl) ?_
    refine V_goto (t := 18) dL_law_1332 (by decide) ?_
    exact V_sub (by exact (And.intro rfl (And.intro rfl (And.intro rfl (And.intro rfl True.intro))))) (q1 z1)
  ·
    refine V_iconst dL_law_874 ic_0 ?_
    exact V_zret dL_law_875 rfl rfl (q2 z1)
theorem tL_law_885 {G : gx} {b : bg} {h : ah} {Q : Option Value → ah → Prop} {x3 : Int32} {s0 : Int32} (q1 : vp_in (x3 + (1 : Int32)) (g_n G)) (q2 : V G mL_law b 891 [some (.ref 0), some (.ref 2), some (.ref 42), some (.int x3)] [.int (g_x G (x3 + (1 : Int32)).toNatClampNeg), .ref 42, .int s0] h Q) : V G mL_law b 885 [some (.ref 0), some (.ref 2), some (.ref 42), some (.int x3)] [.int s0] h Q := by
  refine V_aload_n dL_law_885 rfl rfl ?_
  refine V_aload_n dL_law_886 rfl rfl ?_
  refine V_iload_n dL_law_887 rfl rfl ?_
  refine V_iconst dL_law_888 ic_1 ?_
  refine V_iadd dL_law_889 ?_
  refine V_sld dL_law_890 (q1) ?_
  exact V_sub (by exact (And.intro rfl (And.intro rfl (And.intro rfl (And.intro rfl True.intro))))) (q2)
theorem tL_law_894 {G : gx} {b : bg} {h : ah} {Q : Option Value → ah → Prop} {x3 : Int32} {s0 : Int32} {s1 : Int32} (q1 : (s1 = s0) → V G mL_law b 18 [some (.ref 0), some (.ref 2), some (.ref 42), some (.int (x3 + (6 : Int32)))] [] h Q) (q2 : (¬ s1 = s0) → Q (some (.int (0 : Int32))) h) : V G mL_law b 894 [some (.ref 0), some (.ref 2), some (.ref 42), some (.int x3)] [.int s0, .int s1] h Q := by
  refine V_icmp_eq (t := 1329) dL_law_894 (by decide) (fun z1 => ?_) (fun z1 => ?_)
  ·
    refine V_inc dL_law_1329 ic_6 rfl (Nat.le_of_ble_eq_true rfl) ?_
    refine V_goto (t := 18) dL_law_1332 (by decide) ?_
    exact V_sub (by exact (And.intro rfl (And.intro rfl (And.intro rfl (And.intro rfl True.intro))))) (q1 z1)
  ·
    refine V_iconst dL_law_897 ic_0 ?_
    exact V_zret dL_law_898 rfl rfl (q2 z1)
theorem tL_law_923 {G : gx} {b : bg} {h : ah} {Q : Option Value → ah → Prop} {x3 : Int32} {s0 : Int32} (q1 : vp_in (x3 + (1 : Int32)) (g_n G)) (q2 : vp_in (x3 + (2 : Int32)) (g_n G)) (q3 : vp_in (x3 + (3 : Int32)) (g_n G)) (q4 : vp_in (x3 + (4 : Int32)) (g_n G)) (q5 : V G mL_law b 944 [some (.ref 0), some (.ref 2), some (.ref 42), some (.int x3)] [.int (g_x G (x3 + (4 : Int32)).toNatClampNeg), .int (g_x G (x3 + (3 : Int32)).toNatClampNeg), .int (g_x G (x3 + (2 : Int32)).toNatClampNeg), .int (g_x G (x3 + (1 : Int32)).toNatClampNeg), .ref 42, .int s0] h Q) : V G mL_law b 923 [some (.ref 0), some (.ref 2), some (.ref 42), some (.int x3)] [.int s0] h Q := by
  refine V_aload_n dL_law_923 rfl rfl ?_
  refine V_aload_n dL_law_924 rfl rfl ?_
  refine V_iload_n dL_law_925 rfl rfl ?_
  refine V_iconst dL_law_926 ic_1 ?_
  refine V_iadd dL_law_927 ?_
  refine V_sld dL_law_928 (q1) ?_
  refine V_aload_n dL_law_929 rfl rfl ?_
  refine V_iload_n dL_law_930 rfl rfl ?_
  refine V_iconst dL_law_931 ic_2 ?_
  refine V_iadd dL_law_932 ?_
  refine V_sld dL_law_933 (q2) ?_
  refine V_aload_n dL_law_934 rfl rfl ?_
  refine V_iload_n dL_law_935 rfl rfl ?_
  refine V_iconst dL_law_936 ic_3 ?_
  refine V_iadd dL_law_937 ?_
  refine V_sld dL_law_938 (q3) ?_
  refine V_aload_n dL_law_939 rfl rfl ?_
  refine V_iload_n dL_law_940 rfl rfl ?_
  refine V_iconst dL_law_941 ic_4 ?_
  refine V_iadd dL_law_942 ?_
  refine V_sld dL_law_943 (q4) ?_
  exact V_sub (by exact (And.intro rfl (And.intro rfl (And.intro rfl (And.intro rfl True.intro))))) (q5)
theorem tL_law_947 {G : gx} {b : bg} {h : ah} {Q : Option Value → ah → Prop} {x3 : Int32} {s0 : Int32} {s1 : Int32} (q1 : (s1 = s0) → V G mL_law b 18 [some (.ref 0), some (.ref 2), some (.ref 42), some (.int (x3 + (6 : Int32)))] [] h Q) (q2 : (¬ s1 = s0) → Q (some (.int (0 : Int32))) h) : V G mL_law b 947 [some (.ref 0), some (.ref 2), some (.ref 42), some (.int x3)] [.int s0, .int s1] h Q := by
  refine V_icmp_eq (t := 1329) dL_law_947 (by decide) (fun z1 => ?_) (fun z1 => ?_)
  ·
    refine V_inc dL_law_1329 ic_6 rfl (Nat.le_of_ble_eq_true rfl) ?_
    refine V_goto (t := 18) dL_law_1332 (by decide) ?_
    exact V_sub (by exact (And.intro rfl (And.intro rfl (And.intro rfl (And.intro rfl True.intro))))) (q1 z1)
  ·
    refine V_iconst dL_law_950 ic_0 ?_
    exact V_zret dL_law_951 rfl rfl (q2 z1)
theorem tL_law_971 {G : gx} {b : bg} {h : ah} {Q : Option Value → ah → Prop} {x3 : Int32} {s0 : Int32} (q1 : vp_in (x3 + (1 : Int32)) (g_n G)) (q2 : vp_in (x3 + (2 : Int32)) (g_n G)) (q3 : vp_in (x3 + (3 : Int32)) (g_n G)) (q4 : V G mL_law b 987 [some (.ref 0), some (.ref 2), some (.ref 42), some (.int x3)] [.int (g_x G (x3 + (3 : Int32)).toNatClampNeg), .int (g_x G (x3 + (2 : Int32)).toNatClampNeg), .int (g_x G (x3 + (1 : Int32)).toNatClampNeg), .ref 42, .int s0] h Q) : V G mL_law b 971 [some (.ref 0), some (.ref 2), some (.ref 42), some (.int x3)] [.int s0] h Q := by
  refine V_aload_n dL_law_971 rfl rfl ?_
  refine V_aload_n dL_law_972 rfl rfl ?_
  refine V_iload_n dL_law_973 rfl rfl ?_
  refine V_iconst dL_law_974 ic_1 ?_
  refine V_iadd dL_law_975 ?_
  refine V_sld dL_law_976 (q1) ?_
  refine V_aload_n dL_law_977 rfl rfl ?_
  refine V_iload_n dL_law_978 rfl rfl ?_
  refine V_iconst dL_law_979 ic_2 ?_
  refine V_iadd dL_law_980 ?_
  refine V_sld dL_law_981 (q2) ?_
  refine V_aload_n dL_law_982 rfl rfl ?_
  refine V_iload_n dL_law_983 rfl rfl ?_
  refine V_iconst dL_law_984 ic_3 ?_
  refine V_iadd dL_law_985 ?_
  refine V_sld dL_law_986 (q3) ?_
  exact V_sub (by exact (And.intro rfl (And.intro rfl (And.intro rfl (And.intro rfl True.intro))))) (q4)
theorem tL_law_990 {G : gx} {b : bg} {h : ah} {Q : Option Value → ah → Prop} {x3 : Int32} {s0 : Int32} {s1 : Int32} (q1 : (s1 = s0) → V G mL_law b 18 [some (.ref 0), some (.ref 2), some (.ref 42), some (.int (x3 + (6 : Int32)))] [] h Q) (q2 : (¬ s1 = s0) → Q (some (.int (0 : Int32))) h) : V G mL_law b 990 [some (.ref 0), some (.ref 2), some (.ref 42), some (.int x3)] [.int s0, .int s1] h Q := by
  refine V_icmp_eq (t := 1329) dL_law_990 (by decide) (fun z1 => ?_) (fun z1 => ?_)
  ·
    refine V_inc dL_law_1329 ic_6 rfl (Nat.le_of_ble_eq_true rfl) ?_
    refine V_goto (t := 18) dL_law_1332 (by decide) ?_
    exact V_sub (by exact (And.intro rfl (And.intro rfl (And.intro rfl (And.intro rfl True.intro))))) (q1 z1)
  ·
    refine V_iconst dL_law_993 ic_0 ?_
    exact V_zret dL_law_994 rfl rfl (q2 z1)
theorem tL_law_1024 {G : gx} {b : bg} {h : ah} {Q : Option Value → ah → Prop} {x3 : Int32} {s0 : Int32} (q1 : vp_in (x3 + (1 : Int32)) (g_n G)) (q2 : vp_in (x3 + (2 : Int32)) (g_n G)) (q3 : vp_in (x3 + (3 : Int32)) (g_n G)) (q4 : vp_in (x3 + (4 : Int32)) (g_n G)) (q5 : vp_in (x3 + (5 : Int32)) (g_n G)) (q6 : V G mL_law b 1050 [some (.ref 0), some (.ref 2), some (.ref 42), some (.int x3)] [.int (g_x G (x3 + (5 : Int32)).toNatClampNeg), .int (g_x G (x3 + (4 : Int32)).toNatClampNeg), .int (g_x G (x3 + (3 : Int32)).toNatClampNeg), .int (g_x G (x3 + (2 : Int32)).toNatClampNeg), .int (g_x G (x3 + (1 : Int32)).toNatClampNeg), .ref 42, .int s0] h Q) : V G mL_law b 1024 [some (.ref 0), some (.ref 2), some (.ref 42), some (.int x3)] [.int s0] h Q := by
  refine V_aload_n dL_law_1024 rfl rfl ?_
  refine V_aload_n dL_law_1025 rfl rfl ?_
  refine V_iload_n dL_law_1026 rfl rfl ?_
  refine V_iconst dL_law_1027 ic_1 ?_
  refine V_iadd dL_law_1028 ?_
  refine V_sld dL_law_1029 (q1) ?_
  refine V_aload_n dL_law_1030 rfl rfl ?_
  refine V_iload_n dL_law_1031 rfl rfl ?_
  refine V_iconst dL_law_1032 ic_2 ?_
  refine V_iadd dL_law_1033 ?_
  refine V_sld dL_law_1034 (q2) ?_
  refine V_aload_n dL_law_1035 rfl rfl ?_
  refine V_iload_n dL_law_1036 rfl rfl ?_
  refine V_iconst dL_law_1037 ic_3 ?_
  refine V_iadd dL_law_1038 ?_
  refine V_sld dL_law_1039 (q3) ?_
  refine V_aload_n dL_law_1040 rfl rfl ?_
  refine V_iload_n dL_law_1041 rfl rfl ?_
  refine V_iconst dL_law_1042 ic_4 ?_
  refine V_iadd dL_law_1043 ?_
  refine V_sld dL_law_1044 (q4) ?_
  refine V_aload_n dL_law_1045 rfl rfl ?_
  refine V_iload_n dL_law_1046 rfl rfl ?_
  refine V_iconst dL_law_1047 ic_5 ?_
  refine V_iadd dL_law_1048 ?_
  refine V_sld dL_law_1049 (q5) ?_
  exact V_sub (by exact (And.intro rfl (And.intro rfl (And.intro rfl (And.intro rfl True.intro))))) (q6)
theorem tL_law_1053 {G : gx} {b : bg} {h : ah} {Q : Option Value → ah → Prop} {x3 : Int32} {s0 : Int32} {s1 : Int32} (q1 : (s1 = s0) → V G mL_law b 18 [some (.ref 0), some (.ref 2), some (.ref 42), some (.int (x3 + (6 : Int32)))] [] h Q) (q2 : (¬ s1 = s0) → Q (some (.int (0 : Int32))) h) : V G mL_law b 1053 [some (.ref 0), some (.ref 2), some (.ref 42), some (.int x3)] [.int s0, .int s1] h Q := by
  refine V_icmp_eq (t := 1329) dL_law_1053 (by decide) (fun z1 => ?_) (fun z1 => ?_)
  ·
    refine V_inc dL_law_1329 ic_6 rfl (Nat.le_of_ble_eq_true rfl) ?_
    refine V_goto (t := 18) dL_law_1332 (by decide) ?_
    exact V_sub (by exact (And.intro rfl (And.intro rfl (And.intro rfl (And.intro rfl True.intro))))) (q1 z1)
  ·
    refine V_iconst dL_law_1056 ic_0 ?_
    exact V_zret dL_law_1057 rfl rfl (q2 z1)
theorem tL_law_1082 {G : gx} {b : bg} {h : ah} {Q : Option Value → ah → Prop} {x3 : Int32} {s0 : Int32} (q1 : vp_in (x3 + (1 : Int32)) (g_n G)) (q2 : vp_in (x3 + (2 : Int32)) (g_n G)) (q3 : vp_in (x3 + (3 : Int32)) (g_n G)) (q4 : vp_in (x3 + (4 : Int32)) (g_n G)) (q5 : V G mL_law b 1103 [some (.ref 0), some (.ref 2), some (.ref 42), some (.int x3)] [.int (g_x G (x3 + (4 : Int32)).toNatClampNeg), .int (g_x G (x3 + (3 : Int32)).toNatClampNeg), .int (g_x G (x3 + (2 : Int32)).toNatClampNeg), .int (g_x G (x3 + (1 : Int32)).toNatClampNeg), .ref 42, .int s0] h Q) : V G mL_law b 1082 [some (.ref 0), some (.ref 2), some (.ref 42), some (.int x3)] [.int s0] h Q := by
  refine V_aload_n dL_law_1082 rfl rfl ?_
  refine V_aload_n dL_law_1083 rfl rfl ?_
  refine V_iload_n dL_law_1084 rfl rfl ?_
  refine V_iconst dL_law_1085 ic_1 ?_
  refine V_iadd dL_law_1086 ?_
  refine V_sld dL_law_1087 (q1) ?_
  refine V_aload_n dL_law_1088 rfl rfl ?_
  refine V_iload_n dL_law_1089 rfl rfl ?_
  refine V_iconst dL_law_1090 ic_2 ?_
  refine V_iadd dL_law_1091 ?_
  refine V_sld dL_law_1092 (q2) ?_
  refine V_aload_n dL_law_1093 rfl rfl ?_
  refine V_iload_n dL_law_1094 rfl rfl ?_
  refine V_iconst dL_law_1095 ic_3 ?_
  refine V_iadd dL_law_1096 ?_
  refine V_sld dL_law_1097 (q3) ?_
  refine V_aload_n dL_law_1098 rfl rfl ?_
  refine V_iload_n dL_law_1099 rfl rfl ?_
  refine V_iconst dL_law_1100 ic_4 ?_
  refine V_iadd dL_law_1101 ?_
  refine V_sld dL_law_1102 (q4) ?_
  exact V_sub (by exact (And.intro rfl (And.intro rfl (And.intro rfl (And.intro rfl True.intro))))) (q5)
theorem tL_law_1106 {G : gx} {b : bg} {h : ah} {Q : Option Value → ah → Prop} {x3 : Int32} {s0 : Int32} {s1 : Int32} (q1 : (s1 = s0) → V G mL_law b 18 [some (.ref 0), some (.ref 2), some (.ref 42), some (.int (x3 + (6 : Int32)))] [] h Q) (q2 : (¬ s1 = s0) → Q (some (.int (0 : Int32))) h) : V G mL_law b 1106 [some (.ref 0), some (.ref 2), some (.ref 42), some (.int x3)] [.int s0, .int s1] h Q := by
  refine V_icmp_eq (t := 1329) dL_law_1106 (by decide) (fun z1 => ?_) (fun z1 => ?_)
  ·
    refine V_inc dL_law_1329 ic_6 rfl (Nat.le_of_ble_eq_true rfl) ?_
    refine V_goto (t := 18) dL_law_1332 (by decide) ?_
    exact V_sub (by exact (And.intro rfl (And.intro rfl (And.intro rfl (And.intro rfl True.intro))))) (q1 z1)
  ·
    refine V_iconst dL_law_1109 ic_0 ?_
    exact V_zret dL_law_1110 rfl rfl (q2 z1)
theorem tL_law_1135 {G : gx} {b : bg} {h : ah} {Q : Option Value → ah → Prop} {x3 : Int32} {s0 : Int32} (q1 : vp_in (x3 + (1 : Int32)) (g_n G)) (q2 : vp_in (x3 + (2 : Int32)) (g_n G)) (q3 : vp_in (x3 + (3 : Int32)) (g_n G)) (q4 : vp_in (x3 + (4 : Int32)) (g_n G)) (q5 : V G mL_law b 1156 [some (.ref 0), some (.ref 2), some (.ref 42), some (.int x3)] [.int (g_x G (x3 + (4 : Int32)).toNatClampNeg), .int (g_x G (x3 + (3 : Int32)).toNatClampNeg), .int (g_x G (x3 + (2 : Int32)).toNatClampNeg), .int (g_x G (x3 + (1 : Int32)).toNatClampNeg), .ref 42, .int s0] h Q) : V G mL_law b 1135 [some (.ref 0), some (.ref 2), some (.ref 42), some (.int x3)] [.int s0] h Q := by
  refine V_aload_n dL_law_1135 rfl rfl ?_
  refine V_aload_n dL_law_1136 rfl rfl ?_
  refine V_iload_n dL_law_1137 rfl rfl ?_
  refine V_iconst dL_law_1138 ic_1 ?_
  refine V_iadd dL_law_1139 ?_
  refine V_sld dL_law_1140 (q1) ?_
  refine V_aload_n dL_law_1141 rfl rfl ?_
  refine V_iload_n dL_law_1142 rfl rfl ?_
  refine V_iconst dL_law_1143 ic_2 ?_
  refine V_iadd dL_law_1144 ?_
  refine V_sld dL_law_1145 (q2) ?_
  refine V_aload_n dL_law_1146 rfl rfl ?_
  refine V_iload_n dL_law_1147 rfl rfl ?_
  refine V_iconst dL_law_1148 ic_3 ?_
  refine V_iadd dL_law_1149 ?_
  refine V_sld dL_law_1150 (q3) ?_
  refine V_aload_n dL_law_1151 rfl rfl ?_
  refine V_iload_n dL_law_1152 rfl rfl ?_
  refine V_iconst dL_law_1153 ic_4 ?_
  refine V_iadd dL_law_1154 ?_
  refine V_sld dL_law_1155 (q4) ?_
  exact V_sub (by exact (And.intro rfl (And.intro rfl (And.intro rfl (And.intro rfl True.intro))))) (q5)
theorem tL_law_1159 {G : gx} {b : bg} {h : ah} {Q : Option Value → ah → Prop} {x3 : Int32} {s0 : Int32} {s1 : Int32} (q1 : (s1 = s0) → V G mL_law b 18 [some (.ref 0), some (.ref 2), some (.ref 42), some (.int (x3 + (6 : Int32)))] [] h Q) (q2 : (¬ s1 = s0) → Q (some (.int (0 : Int32))) h) : V G mL_law b 1159 [some (.ref 0), some (.ref 2), some (.ref 42), some (.int x3)] [.int s0, .int s1] h Q := by
  refine V_icmp_eq (t := 1329) dL_law_1159 (by decide) (fun z1 => ?_) (fun z1 => ?_)
  ·
    refine V_inc dL_law_1329 ic_6 rfl (Nat.le_of_ble_eq_true rfl) ?_
    refine V_goto (t := 18) dL_law_1332 (by decide) ?_
    exact V_sub (by exact (And.intro rfl (And.intro rfl (And.intro rfl (And.intro rfl True.intro))))) (q1 z1)
  ·
    refine V_iconst dL_law_1162 ic_0 ?_
    exact V_zret dL_law_1163 rfl rfl (q2 z1)
theorem tL_law_1168 {G : gx} {b : bg} {h : ah} {Q : Option Value → ah → Prop} {x3 : Int32} {s0 : Int32} (q1 : V G mL_law b 1169 [some (.ref 0), some (.ref 2), some (.ref 42), some (.int x3)] [.ref 42, .int s0] h Q) : V G mL_law b 1168 [some (.ref 0), some (.ref 2), some (.ref 42), some (.int x3)] [.int s0] h Q := by
  refine V_aload_n dL_law_1168 rfl rfl ?_
  exact V_sub (by exact (And.intro rfl (And.intro rfl (And.intro rfl (And.intro rfl True.intro))))) (q1)
theorem tL_law_1172 {G : gx} {b : bg} {h : ah} {Q : Option Value → ah → Prop} {x3 : Int32} {s0 : Int32} {s1 : Int32} (q1 : (s1 = s0) → V G mL_law b 18 [some (.ref 0), some (.ref 2), some (.ref 42), some (.int (x3 + (6 : Int32)))] [] h Q) (q2 : (¬ s1 = s0) → Q (some (.int (0 : Int32))) h) : V G mL_law b 1172 [some (.ref 0), some (.ref 2), some (.ref 42), some (.int x3)] [.int s0, .int s1] h Q := by
  refine V_icmp_eq (t := 1329) dL_law_1172 (by decide) (fun z1 => ?_) (fun z1 => ?_)
  ·
    refine V_inc dL_law_1329 ic_6 rfl (Nat.le_of_ble_eq_true rfl) ?_
    refine V_goto (t := 18) dL_law_1332 (by decide) ?_
    exact V_sub (by exact (And.intro rfl (And.intro rfl (And.intro rfl (And.intro rfl True.intro))))) (q1 z1)
  ·
    refine V_iconst dL_law_1175 ic_0 ?_
    exact V_zret dL_law_1176 rfl rfl (q2 z1)
theorem tL_law_1186 {G : gx} {b : bg} {h : ah} {Q : Option Value → ah → Prop} {x3 : Int32} {s0 : Int32} (q1 : vp_in (x3 + (1 : Int32)) (g_n G)) (q2 : V G mL_law b 1192 [some (.ref 0), some (.ref 2), some (.ref 42), some (.int x3)] [.int (g_x G (x3 + (1 : Int32)).toNatClampNeg), .ref 42, .int s0] h Q) : V G mL_law b 1186 [some (.ref 0), some (.ref 2), some (.ref 42), some (.int x3)] [.int s0] h Q := by
  refine V_aload_n dL_law_1186 rfl rfl ?_
  refine V_aload_n dL_law_1187 rfl rfl ?_
  refine V_iload_n dL_law_1188 rfl rfl ?_
  refine V_iconst dL_law_1189 ic_1 ?_
  refine V_iadd dL_law_1190 ?_
  refine V_sld dL_law_1191 (q1) ?_
  exact V_sub (by exact (And.intro rfl (And.intro rfl (And.intro rfl (And.intro rfl True.intro))))) (q2)
theorem tL_law_1195 {G : gx} {b : bg} {h : ah} {Q : Option Value → ah → Prop} {x3 : Int32} {s0 : Int32} {s1 : Int32} (q1 : (s1 = s0) → V G mL_law b 18 [some (.ref 0), some (.ref 2), some (.ref 42), some (.int (x3 + (6 : Int32)))] [] h Q) (q2 : (¬ s1 = s0) → Q (some (.int (0 : Int32))) h) : V G mL_law b 1195 [some (.ref 0), some (.ref 2), some (.ref 42), some (.int x3)] [.int s0, .int s1] h Q := by
  refine V_icmp_eq (t := 1329) dL_law_1195 (by decide) (fun z1 => ?_) (fun z1 => ?_)
  ·
    refine V_inc dL_law_1329 ic_6 rfl (Nat.le_of_ble_eq_true rfl) ?_
    refine V_goto (t := 18) dL_law_1332 (by decide) ?_
    exact V_sub (by exact (And.intro rfl (And.intro rfl (And.intro rfl (And.intro rfl True.intro))))) (q1 z1)
  ·
    refine V_iconst dL_law_1198 ic_0 ?_
    exact V_zret dL_law_1199 rfl rfl (q2 z1)
theorem tL_law_1209 {G : gx} {b : bg} {h : ah} {Q : Option Value → ah → Prop} {x3 : Int32} {s0 : Int32} (q1 : vp_in (x3 + (1 : Int32)) (g_n G)) (q2 : V G mL_law b 1215 [some (.ref 0), some (.ref 2), some (.ref 42), some (.int x3)] [.int (g_x G (x3 + (1 : Int32)).toNatClampNeg), .ref 42, .int s0] h Q) : V G mL_law b 1209 [some (.ref 0), some (.ref 2), some (.ref 42), some (.int x3)] [.int s0] h Q := by
  refine V_aload_n dL_law_1209 rfl rfl ?_
  refine V_aload_n dL_law_1210 rfl rfl ?_
  refine V_iload_n dL_law_1211 rfl rfl ?_
  refine V_iconst dL_law_1212 ic_1 ?_
  refine V_iadd dL_law_1213 ?_
  refine V_sld dL_law_1214 (q1) ?_
  exact V_sub (by exact (And.intro rfl (And.intro rfl (And.intro rfl (And.intro rfl True.intro))))) (q2)
theorem tL_law_1218 {G : gx} {b : bg} {h : ah} {Q : Option Value → ah → Prop} {x3 : Int32} {s0 : Int32} {s1 : Int32} (q1 : (s1 = s0) → V G mL_law b 18 [some (.ref 0), some (.ref 2), some (.ref 42), some (.int (x3 + (6 : Int32)))] [] h Q) (q2 : (¬ s1 = s0) → Q (some (.int (0 : Int32))) h) : V G mL_law b 1218 [some (.ref 0), some (.ref 2), some (.ref 42), some (.int x3)] [.int s0, .int s1] h Q := by
  refine V_icmp_eq (t := 1329) dL_law_1218 (by decide) (fun z1 => ?_) (fun z1 => ?_)
  ·
    refine V_inc dL_law_1329 ic_6 rfl (Nat.le_of_ble_eq_true rfl) ?_
    refine V_goto (t := 18) dL_law_1332 (by decide) ?_
    exact V_sub (by exact (And.intro rfl (And.intro rfl (And.intro rfl (And.intro rfl True.intro))))) (q1 z1)
  ·
    refine V_iconst dL_law_1221 ic_0 ?_
    exact V_zret dL_law_1222 rfl rfl (q2 z1)
theorem tL_law_1232 {G : gx} {b : bg} {h : ah} {Q : Option Value → ah → Prop} {x3 : Int32} {s0 : Int32} (q1 : vp_in (x3 + (1 : Int32)) (g_n G)) (q2 : V G mL_law b 1238 [some (.ref 0), some (.ref 2), some (.ref 42), some (.int x3)] [.int (g_x G (x3 + (1 : Int32)).toNatClampNeg), .ref 42, .int s0] h Q) : V G mL_law b 1232 [some (.ref 0), some (.ref 2), some (.ref 42), some (.int x3)] [.int s0] h Q := by
  refine V_aload_n dL_law_1232 rfl rfl ?_
  refine V_aload_n dL_law_1233 rfl rfl ?_
  refine V_iload_n dL_law_1234 rfl rfl ?_
  refine V_iconst dL_law_1235 ic_1 ?_
  refine V_iadd dL_law_1236 ?_
  refine V_sld dL_law_1237 (q1) ?_
  exact V_sub (by exact (And.intro rfl (And.intro rfl (And.intro rfl (And.intro rfl True.intro))))) (q2)
theorem tL_law_1241 {G : gx} {b : bg} {h : ah} {Q : Option Value → ah → Prop} {x3 : Int32} {s0 : Int32} {s1 : Int32} (q1 : (s1 = s0) → V G mL_law b 18 [some (.ref 0), some (.ref 2), some (.ref 42), some (.int (x3 + (6 : Int32)))] [] h Q) (q2 : (¬ s1 = s0) → Q (some (.int (0 : Int32))) h) : V G mL_law b 1241 [some (.ref 0), some (.ref 2), some (.ref 42), some (.int x3)] [.int s0, .int s1] h Q := by
  refine V_icmp_eq (t := 1329) dL_law_1241 (by decide) (fun z1 => ?_) (fun z1 => ?_)
  ·
    refine V_inc dL_law_1329 ic_6 rfl (Nat.le_of_ble_eq_true rfl) ?_
    refine V_goto (t := 18) dL_law_1332 (by decide) ?_
    exact V_sub (by exact (And.intro rfl (And.intro rfl (And.intro rfl (And.intro rfl True.intro))))) (q1 z1)
  ·
    refine V_iconst dL_law_1244 ic_0 ?_
    exact V_zret dL_law_1245 rfl rfl (q2 z1)
theorem tL_law_1255 {G : gx} {b : bg} {h : ah} {Q : Option Value → ah → Prop} {x3 : Int32} {s0 : Int32} (q1 : vp_in (x3 + (1 : Int32)) (g_n G)) (q2 : V G mL_law b 1261 [some (.ref 0), some (.ref 2), some (.ref 42), some (.int x3)] [.int (g_x G (x3 + (1 : Int32)).toNatClampNeg), .ref 42, .int s0] h Q) : V G mL_law b 1255 [some (.ref 0), some (.ref 2), some (.ref 42), some (.int x3)] [.int s0] h Q := by
  refine V_aload_n dL_law_1255 rfl rfl ?_
  refine V_aload_n dL_law_1256 rfl rfl ?_
  refine V_iload_n dL_law_1257 rfl rfl ?_
  refine V_iconst dL_law_1258 ic_1 ?_
  refine V_iadd dL_law_1259 ?_
  refine V_sld dL_law_1260 (q1) ?_
  exact V_sub (by exact (And.intro rfl (And.intro rfl (And.intro rfl (And.intro rfl True.intro))))) (q2)
theorem tL_law_1264 {G : gx} {b : bg} {h : ah} {Q : Option Value → ah → Prop} {x3 : Int32} {s0 : Int32} {s1 : Int32} (q1 : (s1 = s0) → V G mL_law b 18 [some (.ref 0), some (.ref 2), some (.ref 42), some (.int (x3 + (6 : Int32)))] [] h Q) (q2 : (¬ s1 = s0) → Q (some (.int (0 : Int32))) h) : V G mL_law b 1264 [some (.ref 0), some (.ref 2), some (.ref 42), some (.int x3)] [.int s0, .int s1] h Q := by
  refine V_icmp_eq (t := 1329) dL_law_1264 (by decide) (fun z1 => ?_) (fun z1 => ?_)
  ·
    refine V_inc dL_law_1329 ic_6 rfl (Nat.le_of_ble_eq_true rfl) ?_
    refine V_goto (t := 18) dL_law_1332 (by decide) ?_
    exact V_sub (by exact (And.intro rfl (And.intro rfl (And.intro rfl (And.intro rfl True.intro))))) (q1 z1)
  ·
    refine V_iconst dL_law_1267 ic_0 ?_
    exact V_zret dL_law_1268 rfl rfl (q2 z1)
theorem tL_law_1278 {G : gx} {b : bg} {h : ah} {Q : Option Value → ah → Prop} {x3 : Int32} {s0 : Int32} (q1 : vp_in (x3 + (1 : Int32)) (g_n G)) (q2 : V G mL_law b 1284 [some (.ref 0), some (.ref 2), some (.ref 42), some (.int x3)] [.int (g_x G (x3 + (1 : Int32)).toNatClampNeg), .ref 42, .int s0] h Q) : V G mL_law b 1278 [some (.ref 0), some (.ref 2), some (.ref 42), some (.int x3)] [.int s0] h Q := by
  refine V_aload_n dL_law_1278 rfl rfl ?_
  refine V_aload_n dL_law_1279 rfl rfl ?_
  refine V_iload_n dL_law_1280 rfl rfl ?_
  refine V_iconst dL_law_1281 ic_1 ?_
  refine V_iadd dL_law_1282 ?_
  refine V_sld dL_law_1283 (q1) ?_
  exact V_sub (by exact (And.intro rfl (And.intro rfl (And.intro rfl (And.intro rfl True.intro))))) (q2)
theorem tL_law_1287 {G : gx} {b : bg} {h : ah} {Q : Option Value → ah → Prop} {x3 : Int32} {s0 : Int32} {s1 : Int32} (q1 : (s1 = s0) → V G mL_law b 18 [some (.ref 0), some (.ref 2), some (.ref 42), some (.int (x3 + (6 : Int32)))] [] h Q) (q2 : (¬ s1 = s0) → Q (some (.int (0 : Int32))) h) : V G mL_law b 1287 [some (.ref 0), some (.ref 2), some (.ref 42), some (.int x3)] [.int s0, .int s1] h Q := by
  refine V_icmp_eq (t := 1329) dL_law_1287 (by decide) (fun z1 => ?_) (fun z1 => ?_)
  ·
    refine V_inc dL_law_1329 ic_6 rfl (Nat.le_of_ble_eq_true rfl) ?_
    refine V_goto (t := 18) dL_law_1332 (by decide) ?_
    exact V_sub (by exact (And.intro rfl (And.intro rfl (And.intro rfl (And.intro rfl True.intro))))) (q1 z1)
  ·
    refine V_iconst dL_law_1290 ic_0 ?_
    exact V_zret dL_law_1291 rfl rfl (q2 z1)
theorem tL_law_1301 {G : gx} {b : bg} {h : ah} {Q : Option Value → ah → Prop} {x3 : Int32} {s0 : Int32} (q1 : vp_in (x3 + (1 : Int32)) (g_n G)) (q2 : V G mL_law b 1307 [some (.ref 0), some (.ref 2), some (.ref 42), some (.int x3)] [.int (g_x G (x3 + (1 : Int32)).toNatClampNeg), .ref 42, .int s0] h Q) : V G mL_law b 1301 [some (.ref 0), some (.ref 2), some (.ref 42), some (.int x3)] [.int s0] h Q := by
  refine V_aload_n dL_law_1301 rfl rfl ?_
  refine V_aload_n dL_law_1302 rfl rfl ?_
  refine V_iload_n dL_law_1303 rfl rfl ?_
  refine V_iconst dL_law_1304 ic_1 ?_
  refine V_iadd dL_law_1305 ?_
  refine V_sld dL_law_1306 (q1) ?_
  exact V_sub (by exact (And.intro rfl (And.intro rfl (And.intro rfl (And.intro rfl True.intro))))) (q2)
theorem tL_law_1310 {G : gx} {b : bg} {h : ah} {Q : Option Value → ah → Prop} {x3 : Int32} {s0 : Int32} {s1 : Int32} (q1 : (s1 = s0) → V G mL_law b 18 [some (.ref 0), some (.ref 2), some (.ref 42), some (.int (x3 + (6 : Int32)))] [] h Q) (q2 : (¬ s1 = s0) → Q (some (.int (0 : Int32))) h) : V G mL_law b 1310 [some (.ref 0), some (.ref 2), some (.ref 42), some (.int x3)] [.int s0, .int s1] h Q := by
  refine V_icmp_eq (t := 1329) dL_law_1310 (by decide) (fun z1 => ?_) (fun z1 => ?_)
  ·
    refine V_inc dL_law_1329 ic_6 rfl (Nat.le_of_ble_eq_true rfl) ?_
    refine V_goto (t := 18) dL_law_1332 (by decide) ?_
    exact V_sub (by exact (And.intro rfl (And.intro rfl (And.intro rfl (And.intro rfl True.intro))))) (q1 z1)
  ·
    refine V_iconst dL_law_1313 ic_0 ?_
    exact V_zret dL_law_1314 rfl rfl (q2 z1)
theorem tL_law_1319 {G : gx} {b : bg} {h : ah} {Q : Option Value → ah → Prop} {x3 : Int32} {s0 : Int64} (q1 : V G mL_law b 1320 [some (.ref 0), some (.ref 2), some (.ref 42), some (.int x3)] [.ref 42, .long s0] h Q) : V G mL_law b 1319 [some (.ref 0), some (.ref 2), some (.ref 42), some (.int x3)] [.long s0] h Q := by
  refine V_aload_n dL_law_1319 rfl rfl ?_
  exact V_sub (by exact (And.intro rfl (And.intro rfl (And.intro rfl (And.intro rfl True.intro))))) (q1)
theorem tL_law_1323 {G : gx} {b : bg} {h : ah} {Q : Option Value → ah → Prop} {x3 : Int32} {s0 : Int64} {s1 : Int64} (q1 : ((lg_cmp s1 s0) = (0 : Int32)) → V G mL_law b 18 [some (.ref 0), some (.ref 2), some (.ref 42), some (.int (x3 + (6 : Int32)))] [] h Q) (q2 : (¬ (lg_cmp s1 s0) = (0 : Int32)) → Q (some (.int (0 : Int32))) h) : V G mL_law b 1323 [some (.ref 0), some (.ref 2), some (.ref 42), some (.int x3)] [.long s0, .long s1] h Q := by
  refine V_lcmp dL_law_1323 ?_
  refine V_if_eq (t := 1329) dL_law_1324 (by decide) (fun z1 => ?_) (fun z1 => ?_)
  ·
    refine V_inc dL_law_1329 ic_6 rfl (Nat.le_of_ble_eq_true rfl) ?_
    refine V_goto (t := 18) dL_law_1332 (by decide) ?_
    exact V_sub (by exact (And.intro rfl (And.intro rfl (And.intro rfl (And.intro rfl True.intro))))) (q1 z1)
  ·
    refine V_iconst dL_law_1327 ic_0 ?_
    exact V_zret dL_law_1328 rfl rfl (q2 z1)
theorem cL_law_219 {G : gx} {d mc ms cc zz d2 mc2 ms2 : Nat} {L : List (Option Value)} {S : List Value} {h : ah} {Q Q2 : Option Value → ah → Prop} {k : Nat} {fs : List Value} {a0 a1 : Value} (hM : Ct G mX7_wheel d2 mc2 ms2 (.ref (k + 2) :: [a0, a1]) h Q2) (hc : h (k + 2) = (7, .inl fs)) (hdd : d2 < d ∧ d ≤ 9) (hrm : (S.map fun v => v.category).sum ≤ 8) (hf : cc + mc2 ≤ mc ∧ zz + ms2 ≤ ms) (kk : ∀ r h2, Q2 r h2 → V G mL_law (d, mc, ms, cc + mc2, zz + ms2) 222 L (r.toList ++ S) h2 Q) : V G mL_law (d, mc, ms, cc, zz) 219 L (a1 :: a0 :: .ref (k + 2) :: S) h Q := V_callV (ci := 7) (T := TX7) (N := 9) hM dL_law_219 ⟨km_L_13, ki_X7_wheel, ks_X7_wheel⟩ cw_X7_wheel rfl hc (by decide) hdd rfl rfl hrm hf kk
theorem cL_law_233 {G : gx} {d mc ms cc zz d2 mc2 ms2 : Nat} {L : List (Option Value)} {S : List Value} {h : ah} {Q Q2 : Option Value → ah → Prop} {k : Nat} {fs : List Value} {a0 a1 : Value} (hM : Ct G mX8_wheel d2 mc2 ms2 (.ref (k + 2) :: [a0, a1]) h Q2) (hc : h (k + 2) = (8, .inl fs)) (hdd : d2 < d ∧ d ≤ 9) (hrm : (S.map fun v => v.category).sum ≤ 8) (hf : cc + mc2 ≤ mc ∧ zz + ms2 ≤ ms) (kk : ∀ r h2, Q2 r h2 → V G mL_law (d, mc, ms, cc + mc2, zz + ms2) 236 L (r.toList ++ S) h2 Q) : V G mL_law (d, mc, ms, cc, zz) 233 L (a1 :: a0 :: .ref (k + 2) :: S) h Q := V_callV (ci := 8) (T := TX8) (N := 33) hM dL_law_233 ⟨km_L_17, ki_X8_wheel, ks_X8_wheel⟩ cw_X8_wheel rfl hc (by decide) hdd rfl rfl hrm hf kk
theorem cL_law_252 {G : gx} {d mc ms cc zz d2 mc2 ms2 : Nat} {L : List (Option Value)} {S : List Value} {h : ah} {Q Q2 : Option Value → ah → Prop} {k : Nat} {fs : List Value} {a0 a1 : Value} (hM : Ct G mX7_turn d2 mc2 ms2 (.ref (k + 2) :: [a0, a1]) h Q2) (hc : h (k + 2) = (7, .inl fs)) (hdd : d2 < d ∧ d ≤ 9) (hrm : (S.map fun v => v.category).sum ≤ 8) (hf : cc + mc2 ≤ mc ∧ zz + ms2 ≤ ms) (kk : ∀ r h2, Q2 r h2 → V G mL_law (d, mc, ms, cc + mc2, zz + ms2) 255 L (r.toList ++ S) h2 Q) : V G mL_law (d, mc, ms, cc, zz) 252 L (a1 :: a0 :: .ref (k + 2) :: S) h Q := V_callV (ci := 7) (T := TX7) (N := 9) hM dL_law_252 ⟨km_L_18, ki_X7_turn, ks_X7_turn⟩ cw_X7_turn rfl hc (by decide) hdd rfl rfl hrm hf kk
theorem cL_law_266 {G : gx} {d mc ms cc zz d2 mc2 ms2 : Nat} {L : List (Option Value)} {S : List Value} {h : ah} {Q Q2 : Option Value → ah → Prop} {k : Nat} {fs : List Value} {a0 a1 : Value} (hM : Ct G mX8_turn d2 mc2 ms2 (.ref (k + 2) :: [a0, a1]) h Q2) (hc : h (k + 2) = (8, .inl fs)) (hdd : d2 < d ∧ d ≤ 9) (hrm : (S.map fun v => v.category).sum ≤ 8) (hf : cc + mc2 ≤ mc ∧ zz + ms2 ≤ ms) (kk : ∀ r h2, Q2 r h2 → V G mL_law (d, mc, ms, cc + mc2, zz + ms2) 269 L (r.toList ++ S) h2 Q) : V G mL_law (d, mc, ms, cc, zz) 266 L (a1 :: a0 :: .ref (k + 2) :: S) h Q := V_callV (ci := 8) (T := TX8) (N := 33) hM dL_law_266 ⟨km_L_21, ki_X8_turn, ks_X8_turn⟩ cw_X8_turn rfl hc (by decide) hdd rfl rfl hrm hf kk
theorem cL_law_280 {G : gx} {d mc ms cc zz d2 mc2 ms2 : Nat} {L : List (Option Value)} {S : List Value} {h : ah} {Q Q2 : Option Value → ah → Prop} {k : Nat} {fs : List Value} {a0 : Value} (hM : Ct G mX7_least d2 mc2 ms2 (.ref (k + 2) :: [a0]) h Q2) (hc : h (k + 2) = (7, .inl fs)) (hdd : d2 < d ∧ d ≤ 9) (hrm : (S.map fun v => v.category).sum ≤ 8) (hf : cc + mc2 ≤ mc ∧ zz + ms2 ≤ ms) (kk : ∀ r h2, Q2 r h2 → V G mL_law (d, mc, ms, cc + mc2, zz + ms2) 283 L (r.toList ++ S) h2 Q) : V G mL_law (d, mc, ms, cc, zz) 280 L (a0 :: .ref (k + 2) :: S) h Q := V_callV (ci := 7) (T := TX7) (N := 9) hM dL_law_280 ⟨km_L_22, ki_X7_least, ks_X7_least⟩ cw_X7_least rfl hc (by decide) hdd rfl rfl hrm hf kk
theorem cL_law_289 {G : gx} {d mc ms cc zz d2 mc2 ms2 : Nat} {L : List (Option Value)} {S : List Value} {h : ah} {Q Q2 : Option Value → ah → Prop} {k : Nat} {fs : List Value} {a0 : Value} (hM : Ct G mX8_least d2 mc2 ms2 (.ref (k + 2) :: [a0]) h Q2) (hc : h (k + 2) = (8, .inl fs)) (hdd : d2 < d ∧ d ≤ 9) (hrm : (S.map fun v => v.category).sum ≤ 8) (hf : cc + mc2 ≤ mc ∧ zz + ms2 ≤ ms) (kk : ∀ r h2, Q2 r h2 → V G mL_law (d, mc, ms, cc + mc2, zz + ms2) 292 L (r.toList ++ S) h2 Q) : V G mL_law (d, mc, ms, cc, zz) 289 L (a0 :: .ref (k + 2) :: S) h Q := V_callV (ci := 8) (T := TX8) (N := 33) hM dL_law_289 ⟨km_L_26, ki_X8_least, ks_X8_least⟩ cw_X8_least rfl hc (by decide) hdd rfl rfl hrm hf kk
theorem cL_law_303 {G : gx} {d mc ms cc zz d2 mc2 ms2 : Nat} {L : List (Option Value)} {S : List Value} {h : ah} {Q Q2 : Option Value → ah → Prop} {k : Nat} {fs : List Value} {a0 : Value} (hM : Ct G mX7_steps d2 mc2 ms2 (.ref (k + 2) :: [a0]) h Q2) (hc : h (k + 2) = (7, .inl fs)) (hdd : d2 < d ∧ d ≤ 9) (hrm : (S.map fun v => v.category).sum ≤ 8) (hf : cc + mc2 ≤ mc ∧ zz + ms2 ≤ ms) (kk : ∀ r h2, Q2 r h2 → V G mL_law (d, mc, ms, cc + mc2, zz + ms2) 306 L (r.toList ++ S) h2 Q) : V G mL_law (d, mc, ms, cc, zz) 303 L (a0 :: .ref (k + 2) :: S) h Q := V_callV (ci := 7) (T := TX7) (N := 9) hM dL_law_303 ⟨km_L_27, ki_X7_steps, ks_X7_steps⟩ cw_X7_steps rfl hc (by decide) hdd rfl rfl hrm hf kk
theorem cL_law_312 {G : gx} {d mc ms cc zz d2 mc2 ms2 : Nat} {L : List (Option Value)} {S : List Value} {h : ah} {Q Q2 : Option Value → ah → Prop} {k : Nat} {fs : List Value} {a0 : Value} (hM : Ct G mX8_steps d2 mc2 ms2 (.ref (k + 2) :: [a0]) h Q2) (hc : h (k + 2) = (8, .inl fs)) (hdd : d2 < d ∧ d ≤ 9) (hrm : (S.map fun v => v.category).sum ≤ 8) (hf : cc + mc2 ≤ mc ∧ zz + ms2 ≤ ms) (kk : ∀ r h2, Q2 r h2 → V G mL_law (d, mc, ms, cc + mc2, zz + ms2) 315 L (r.toList ++ S) h2 Q) : V G mL_law (d, mc, ms, cc, zz) 312 L (a0 :: .ref (k + 2) :: S) h Q := V_callV (ci := 8) (T := TX8) (N := 33) hM dL_law_312 ⟨km_L_30, ki_X8_steps, ks_X8_steps⟩ cw_X8_steps rfl hc (by decide) hdd rfl rfl hrm hf kk
theorem cL_law_326 {G : gx} {d mc ms cc zz d2 mc2 ms2 : Nat} {L : List (Option Value)} {S : List Value} {h : ah} {Q Q2 : Option Value → ah → Prop} {k : Nat} {fs : List Value} {a0 : Value} (hM : Ct G mX7_size d2 mc2 ms2 (.ref (k + 2) :: [a0]) h Q2) (hc : h (k + 2) = (7, .inl fs)) (hdd : d2 < d ∧ d ≤ 9) (hrm : (S.map fun v => v.category).sum ≤ 8) (hf : cc + mc2 ≤ mc ∧ zz + ms2 ≤ ms) (kk : ∀ r h2, Q2 r h2 → V G mL_law (d, mc, ms, cc + mc2, zz + ms2) 329 L (r.toList ++ S) h2 Q) : V G mL_law (d, mc, ms, cc, zz) 326 L (a0 :: .ref (k + 2) :: S) h Q := V_callV (ci := 7) (T := TX7) (N := 9) hM dL_law_326 ⟨km_L_31, ki_X7_size, ks_X7_size⟩ cw_X7_size rfl hc (by decide) hdd rfl rfl hrm hf kk
theorem cL_law_335 {G : gx} {d mc ms cc zz d2 mc2 ms2 : Nat} {L : List (Option Value)} {S : List Value} {h : ah} {Q Q2 : Option Value → ah → Prop} {k : Nat} {fs : List Value} {a0 : Value} (hM : Ct G mX8_size d2 mc2 ms2 (.ref (k + 2) :: [a0]) h Q2) (hc : h (k + 2) = (8, .inl fs)) (hdd : d2 < d ∧ d ≤ 9) (hrm : (S.map fun v => v.category).sum ≤ 8) (hf : cc + mc2 ≤ mc ∧ zz + ms2 ≤ ms) (kk : ∀ r h2, Q2 r h2 → V G mL_law (d, mc, ms, cc + mc2, zz + ms2) 338 L (r.toList ++ S) h2 Q) : V G mL_law (d, mc, ms, cc, zz) 335 L (a0 :: .ref (k + 2) :: S) h Q := V_callV (ci := 8) (T := TX8) (N := 33) hM dL_law_335 ⟨km_L_34, ki_X8_size, ks_X8_size⟩ cw_X8_size rfl hc (by decide) hdd rfl rfl hrm hf kk
theorem cL_law_349 {G : gx} {d mc ms cc zz d2 mc2 ms2 : Nat} {L : List (Option Value)} {S : List Value} {h : ah} {Q Q2 : Option Value → ah → Prop} {k : Nat} {fs : List Value} {a0 : Value} (hM : Ct G mX7_even d2 mc2 ms2 (.ref (k + 2) :: [a0]) h Q2) (hc : h (k + 2) = (7, .inl fs)) (hdd : d2 < d ∧ d ≤ 9) (hrm : (S.map fun v => v.category).sum ≤ 8) (hf : cc + mc2 ≤ mc ∧ zz + ms2 ≤ ms) (kk : ∀ r h2, Q2 r h2 → V G mL_law (d, mc, ms, cc + mc2, zz + ms2) 352 L (r.toList ++ S) h2 Q) : V G mL_law (d, mc, ms, cc, zz) 349 L (a0 :: .ref (k + 2) :: S) h Q := V_callV (ci := 7) (T := TX7) (N := 9) hM dL_law_349 ⟨km_L_35, ki_X7_even, ks_X7_even⟩ cw_X7_even rfl hc (by decide) hdd rfl rfl hrm hf kk
theorem cL_law_358 {G : gx} {d mc ms cc zz d2 mc2 ms2 : Nat} {L : List (Option Value)} {S : List Value} {h : ah} {Q Q2 : Option Value → ah → Prop} {k : Nat} {fs : List Value} {a0 : Value} (hM : Ct G mX8_even d2 mc2 ms2 (.ref (k + 2) :: [a0]) h Q2) (hc : h (k + 2) = (8, .inl fs)) (hdd : d2 < d ∧ d ≤ 9) (hrm : (S.map fun v => v.category).sum ≤ 8) (hf : cc + mc2 ≤ mc ∧ zz + ms2 ≤ ms) (kk : ∀ r h2, Q2 r h2 → V G mL_law (d, mc, ms, cc + mc2, zz + ms2) 361 L (r.toList ++ S) h2 Q) : V G mL_law (d, mc, ms, cc, zz) 358 L (a0 :: .ref (k + 2) :: S) h Q := V_callV (ci := 8) (T := TX8) (N := 33) hM dL_law_358 ⟨km_L_38, ki_X8_even, ks_X8_even⟩ cw_X8_even rfl hc (by decide) hdd rfl rfl hrm hf kk
theorem cL_law_367 {G : gx} {d mc ms cc zz d2 mc2 ms2 : Nat} {L : List (Option Value)} {S : List Value} {h : ah} {Q Q2 : Option Value → ah → Prop} {k : Nat} {fs : List Value} (hM : Ct G mX7_rings d2 mc2 ms2 (.ref (k + 2) :: []) h Q2) (hc : h (k + 2) = (7, .inl fs)) (hdd : d2 < d ∧ d ≤ 9) (hrm : (S.map fun v => v.category).sum ≤ 8) (hf : cc + mc2 ≤ mc ∧ zz + ms2 ≤ ms) (kk : ∀ r h2, Q2 r h2 → V G mL_law (d, mc, ms, cc + mc2, zz + ms2) 370 L (r.toList ++ S) h2 Q) : V G mL_law (d, mc, ms, cc, zz) 367 L (.ref (k + 2) :: S) h Q := V_callV (ci := 7) (T := TX7) (N := 9) hM dL_law_367 ⟨km_L_39, ki_X7_rings, ks_X7_rings⟩ cw_X7_rings rfl hc (by decide) hdd rfl rfl hrm hf kk
theorem cL_law_371 {G : gx} {d mc ms cc zz d2 mc2 ms2 : Nat} {L : List (Option Value)} {S : List Value} {h : ah} {Q Q2 : Option Value → ah → Prop} {k : Nat} {fs : List Value} (hM : Ct G mX8_rings d2 mc2 ms2 (.ref (k + 2) :: []) h Q2) (hc : h (k + 2) = (8, .inl fs)) (hdd : d2 < d ∧ d ≤ 9) (hrm : (S.map fun v => v.category).sum ≤ 8) (hf : cc + mc2 ≤ mc ∧ zz + ms2 ≤ ms) (kk : ∀ r h2, Q2 r h2 → V G mL_law (d, mc, ms, cc + mc2, zz + ms2) 374 L (r.toList ++ S) h2 Q) : V G mL_law (d, mc, ms, cc, zz) 371 L (.ref (k + 2) :: S) h Q := V_callV (ci := 8) (T := TX8) (N := 33) hM dL_law_371 ⟨km_L_43, ki_X8_rings, ks_X8_rings⟩ cw_X8_rings rfl hc (by decide) hdd rfl rfl hrm hf kk
theorem cL_law_385 {G : gx} {d mc ms cc zz d2 mc2 ms2 : Nat} {L : List (Option Value)} {S : List Value} {h : ah} {Q Q2 : Option Value → ah → Prop} {k : Nat} {fs : List Value} {a0 : Value} (hM : Ct G mX7_ringOf d2 mc2 ms2 (.ref (k + 2) :: [a0]) h Q2) (hc : h (k + 2) = (7, .inl fs)) (hdd : d2 < d ∧ d ≤ 9) (hrm : (S.map fun v => v.category).sum ≤ 8) (hf : cc + mc2 ≤ mc ∧ zz + ms2 ≤ ms) (kk : ∀ r h2, Q2 r h2 → V G mL_law (d, mc, ms, cc + mc2, zz + ms2) 388 L (r.toList ++ S) h2 Q) : V G mL_law (d, mc, ms, cc, zz) 385 L (a0 :: .ref (k + 2) :: S) h Q := V_callV (ci := 7) (T := TX7) (N := 9) hM dL_law_385 ⟨km_L_44, ki_X7_ringOf, ks_X7_ringOf⟩ cw_X7_ringOf rfl hc (by decide) hdd rfl rfl hrm hf kk
theorem cL_law_394 {G : gx} {d mc ms cc zz d2 mc2 ms2 : Nat} {L : List (Option Value)} {S : List Value} {h : ah} {Q Q2 : Option Value → ah → Prop} {k : Nat} {fs : List Value} {a0 : Value} (hM : Ct G mX8_ringOf d2 mc2 ms2 (.ref (k + 2) :: [a0]) h Q2) (hc : h (k + 2) = (8, .inl fs)) (hdd : d2 < d ∧ d ≤ 9) (hrm : (S.map fun v => v.category).sum ≤ 8) (hf : cc + mc2 ≤ mc ∧ zz + ms2 ≤ ms) (kk : ∀ r h2, Q2 r h2 → V G mL_law (d, mc, ms, cc + mc2, zz + ms2) 397 L (r.toList ++ S) h2 Q) : V G mL_law (d, mc, ms, cc, zz) 394 L (a0 :: .ref (k + 2) :: S) h Q := V_callV (ci := 8) (T := TX8) (N := 33) hM dL_law_394 ⟨km_L_47, ki_X8_ringOf, ks_X8_ringOf⟩ cw_X8_ringOf rfl hc (by decide) hdd rfl rfl hrm hf kk
theorem cL_law_408 {G : gx} {d mc ms cc zz d2 mc2 ms2 : Nat} {L : List (Option Value)} {S : List Value} {h : ah} {Q Q2 : Option Value → ah → Prop} {k : Nat} {fs : List Value} {a0 : Value} (hM : Ct G mX7_ring d2 mc2 ms2 (.ref (k + 2) :: [a0]) h Q2) (hc : h (k + 2) = (7, .inl fs)) (hdd : d2 < d ∧ d ≤ 9) (hrm : (S.map fun v => v.category).sum ≤ 8) (hf : cc + mc2 ≤ mc ∧ zz + ms2 ≤ ms) (kk : ∀ r h2, Q2 r h2 → V G mL_law (d, mc, ms, cc + mc2, zz + ms2) 411 L (r.toList ++ S) h2 Q) : V G mL_law (d, mc, ms, cc, zz) 408 L (a0 :: .ref (k + 2) :: S) h Q := V_callV (ci := 7) (T := TX7) (N := 9) hM dL_law_408 ⟨km_L_48, ki_X7_ring, ks_X7_ring⟩ cw_X7_ring rfl hc (by decide) hdd rfl rfl hrm hf kk
theorem cL_law_417 {G : gx} {d mc ms cc zz d2 mc2 ms2 : Nat} {L : List (Option Value)} {S : List Value} {h : ah} {Q Q2 : Option Value → ah → Prop} {k : Nat} {fs : List Value} {a0 : Value} (hM : Ct G mX8_ring d2 mc2 ms2 (.ref (k + 2) :: [a0]) h Q2) (hc : h (k + 2) = (8, .inl fs)) (hdd : d2 < d ∧ d ≤ 9) (hrm : (S.map fun v => v.category).sum ≤ 8) (hf : cc + mc2 ≤ mc ∧ zz + ms2 ≤ ms) (kk : ∀ r h2, Q2 r h2 → V G mL_law (d, mc, ms, cc + mc2, zz + ms2) 420 L (r.toList ++ S) h2 Q) : V G mL_law (d, mc, ms, cc, zz) 417 L (a0 :: .ref (k + 2) :: S) h Q := V_callV (ci := 8) (T := TX8) (N := 33) hM dL_law_417 ⟨km_L_51, ki_X8_ring, ks_X8_ring⟩ cw_X8_ring rfl hc (by decide) hdd rfl rfl hrm hf kk
theorem cL_law_431 {G : gx} {d mc ms cc zz d2 mc2 ms2 : Nat} {L : List (Option Value)} {S : List Value} {h : ah} {Q Q2 : Option Value → ah → Prop} {k : Nat} {fs : List Value} {a0 : Value} (hM : Ct G mX7_below d2 mc2 ms2 (.ref (k + 2) :: [a0]) h Q2) (hc : h (k + 2) = (7, .inl fs)) (hdd : d2 < d ∧ d ≤ 9) (hrm : (S.map fun v => v.category).sum ≤ 8) (hf : cc + mc2 ≤ mc ∧ zz + ms2 ≤ ms) (kk : ∀ r h2, Q2 r h2 → V G mL_law (d, mc, ms, cc + mc2, zz + ms2) 434 L (r.toList ++ S) h2 Q) : V G mL_law (d, mc, ms, cc, zz) 431 L (a0 :: .ref (k + 2) :: S) h Q := V_callV (ci := 7) (T := TX7) (N := 9) hM dL_law_431 ⟨km_L_52, ki_X7_below, ks_X7_below⟩ cw_X7_below rfl hc (by decide) hdd rfl rfl hrm hf kk
theorem cL_law_440 {G : gx} {d mc ms cc zz d2 mc2 ms2 : Nat} {L : List (Option Value)} {S : List Value} {h : ah} {Q Q2 : Option Value → ah → Prop} {k : Nat} {fs : List Value} {a0 : Value} (hM : Ct G mX8_below d2 mc2 ms2 (.ref (k + 2) :: [a0]) h Q2) (hc : h (k + 2) = (8, .inl fs)) (hdd : d2 < d ∧ d ≤ 9) (hrm : (S.map fun v => v.category).sum ≤ 8) (hf : cc + mc2 ≤ mc ∧ zz + ms2 ≤ ms) (kk : ∀ r h2, Q2 r h2 → V G mL_law (d, mc, ms, cc + mc2, zz + ms2) 443 L (r.toList ++ S) h2 Q) : V G mL_law (d, mc, ms, cc, zz) 440 L (a0 :: .ref (k + 2) :: S) h Q := V_callV (ci := 8) (T := TX8) (N := 33) hM dL_law_440 ⟨km_L_55, ki_X8_below, ks_X8_below⟩ cw_X8_below rfl hc (by decide) hdd rfl rfl hrm hf kk
theorem cL_law_474 {G : gx} {d mc ms cc zz d2 mc2 ms2 : Nat} {L : List (Option Value)} {S : List Value} {h : ah} {Q Q2 : Option Value → ah → Prop} {k : Nat} {fs : List Value} {a0 a1 a2 a3 a4 : Value} (hM : Ct G mX7_content d2 mc2 ms2 (.ref (k + 2) :: [a0, a1, a2, a3, a4]) h Q2) (hc : h (k + 2) = (7, .inl fs)) (hdd : d2 < d ∧ d ≤ 9) (hrm : (S.map fun v => v.category).sum ≤ 8) (hf : cc + mc2 ≤ mc ∧ zz + ms2 ≤ ms) (kk : ∀ r h2, Q2 r h2 → V G mL_law (d, mc, ms, cc + mc2, zz + ms2) 477 L (r.toList ++ S) h2 Q) : V G mL_law (d, mc, ms, cc, zz) 474 L (a4 :: a3 :: a2 :: a1 :: a0 :: .ref (k + 2) :: S) h Q := V_callV (ci := 7) (T := TX7) (N := 9) hM dL_law_474 ⟨km_L_56, ki_X7_content, ks_X7_content⟩ cw_X7_content rfl hc (by decide) hdd rfl rfl hrm hf kk
theorem cL_law_503 {G : gx} {d mc ms cc zz d2 mc2 ms2 : Nat} {L : List (Option Value)} {S : List Value} {h : ah} {Q Q2 : Option Value → ah → Prop} {k : Nat} {fs : List Value} {a0 a1 a2 a3 a4 : Value} (hM : Ct G mX8_content d2 mc2 ms2 (.ref (k + 2) :: [a0, a1, a2, a3, a4]) h Q2) (hc : h (k + 2) = (8, .inl fs)) (hdd : d2 < d ∧ d ≤ 9) (hrm : (S.map fun v => v.category).sum ≤ 8) (hf : cc + mc2 ≤ mc ∧ zz + ms2 ≤ ms) (kk : ∀ r h2, Q2 r h2 → V G mL_law (d, mc, ms, cc + mc2, zz + ms2) 506 L (r.toList ++ S) h2 Q) : V G mL_law (d, mc, ms, cc, zz) 503 L (a4 :: a3 :: a2 :: a1 :: a0 :: .ref (k + 2) :: S) h Q := V_callV (ci := 8) (T := TX8) (N := 33) hM dL_law_503 ⟨km_L_60, ki_X8_content, ks_X8_content⟩ cw_X8_content rfl hc (by decide) hdd rfl rfl hrm hf kk
theorem cL_law_522 {G : gx} {d mc ms cc zz d2 mc2 ms2 : Nat} {L : List (Option Value)} {S : List Value} {h : ah} {Q Q2 : Option Value → ah → Prop} {k : Nat} {fs : List Value} {a0 a1 : Value} (hM : Ct G mX7_factor d2 mc2 ms2 (.ref (k + 2) :: [a0, a1]) h Q2) (hc : h (k + 2) = (7, .inl fs)) (hdd : d2 < d ∧ d ≤ 9) (hrm : (S.map fun v => v.category).sum ≤ 8) (hf : cc + mc2 ≤ mc ∧ zz + ms2 ≤ ms) (kk : ∀ r h2, Q2 r h2 → V G mL_law (d, mc, ms, cc + mc2, zz + ms2) 525 L (r.toList ++ S) h2 Q) : V G mL_law (d, mc, ms, cc, zz) 522 L (a1 :: a0 :: .ref (k + 2) :: S) h Q := V_callV (ci := 7) (T := TX7) (N := 9) hM dL_law_522 ⟨km_L_61, ki_X7_factor, ks_X7_factor⟩ cw_X7_factor rfl hc (by decide) hdd rfl rfl hrm hf kk
theorem cL_law_536 {G : gx} {d mc ms cc zz d2 mc2 ms2 : Nat} {L : List (Option Value)} {S : List Value} {h : ah} {Q Q2 : Option Value → ah → Prop} {k : Nat} {fs : List Value} {a0 a1 : Value} (hM : Ct G mX8_factor d2 mc2 ms2 (.ref (k + 2) :: [a0, a1]) h Q2) (hc : h (k + 2) = (8, .inl fs)) (hdd : d2 < d ∧ d ≤ 9) (hrm : (S.map fun v => v.category).sum ≤ 8) (hf : cc + mc2 ≤ mc ∧ zz + ms2 ≤ ms) (kk : ∀ r h2, Q2 r h2 → V G mL_law (d, mc, ms, cc + mc2, zz + ms2) 539 L (r.toList ++ S) h2 Q) : V G mL_law (d, mc, ms, cc, zz) 536 L (a1 :: a0 :: .ref (k + 2) :: S) h Q := V_callV (ci := 8) (T := TX8) (N := 33) hM dL_law_536 ⟨km_L_64, ki_X8_factor, ks_X8_factor⟩ cw_X8_factor rfl hc (by decide) hdd rfl rfl hrm hf kk
theorem cL_law_550 {G : gx} {d mc ms cc zz d2 mc2 ms2 : Nat} {L : List (Option Value)} {S : List Value} {h : ah} {Q Q2 : Option Value → ah → Prop} {k : Nat} {fs : List Value} {a0 : Value} (hM : Ct G mX7_sum d2 mc2 ms2 (.ref (k + 2) :: [a0]) h Q2) (hc : h (k + 2) = (7, .inl fs)) (hdd : d2 < d ∧ d ≤ 9) (hrm : (S.map fun v => v.category).sum ≤ 8) (hf : cc + mc2 ≤ mc ∧ zz + ms2 ≤ ms) (kk : ∀ r h2, Q2 r h2 → V G mL_law (d, mc, ms, cc + mc2, zz + ms2) 553 L (r.toList ++ S) h2 Q) : V G mL_law (d, mc, ms, cc, zz) 550 L (a0 :: .ref (k + 2) :: S) h Q := V_callV (ci := 7) (T := TX7) (N := 9) hM dL_law_550 ⟨km_L_65, ki_X7_sum, ks_X7_sum⟩ cw_X7_sum rfl hc (by decide) hdd rfl rfl hrm hf kk
theorem cL_law_559 {G : gx} {d mc ms cc zz d2 mc2 ms2 : Nat} {L : List (Option Value)} {S : List Value} {h : ah} {Q Q2 : Option Value → ah → Prop} {k : Nat} {fs : List Value} {a0 : Value} (hM : Ct G mX8_sum d2 mc2 ms2 (.ref (k + 2) :: [a0]) h Q2) (hc : h (k + 2) = (8, .inl fs)) (hdd : d2 < d ∧ d ≤ 9) (hrm : (S.map fun v => v.category).sum ≤ 8) (hf : cc + mc2 ≤ mc ∧ zz + ms2 ≤ ms) (kk : ∀ r h2, Q2 r h2 → V G mL_law (d, mc, ms, cc + mc2, zz + ms2) 562 L (r.toList ++ S) h2 Q) : V G mL_law (d, mc, ms, cc, zz) 559 L (a0 :: .ref (k + 2) :: S) h Q := V_callV (ci := 8) (T := TX8) (N := 33) hM dL_law_559 ⟨km_L_68, ki_X8_sum, ks_X8_sum⟩ cw_X8_sum rfl hc (by decide) hdd rfl rfl hrm hf kk
theorem cL_law_573 {G : gx} {d mc ms cc zz d2 mc2 ms2 : Nat} {L : List (Option Value)} {S : List Value} {h : ah} {Q Q2 : Option Value → ah → Prop} {k : Nat} {fs : List Value} {a0 : Value} (hM : Ct G mX7_go d2 mc2 ms2 (.ref (k + 2) :: [a0]) h Q2) (hc : h (k + 2) = (7, .inl fs)) (hdd : d2 < d ∧ d ≤ 9) (hrm : (S.map fun v => v.category).sum ≤ 8) (hf : cc + mc2 ≤ mc ∧ zz + ms2 ≤ ms) (kk : ∀ r h2, Q2 r h2 → V G mL_law (d, mc, ms, cc + mc2, zz + ms2) 576 L (r.toList ++ S) h2 Q) : V G mL_law (d, mc, ms, cc, zz) 573 L (a0 :: .ref (k + 2) :: S) h Q := V_callV (ci := 7) (T := TX7) (N := 9) hM dL_law_573 ⟨km_L_69, ki_X7_go, ks_X7_go⟩ cw_X7_go rfl hc (by decide) hdd rfl rfl hrm hf kk
theorem cL_law_582 {G : gx} {d mc ms cc zz d2 mc2 ms2 : Nat} {L : List (Option Value)} {S : List Value} {h : ah} {Q Q2 : Option Value → ah → Prop} {k : Nat} {fs : List Value} {a0 : Value} (hM : Ct G mX8_go d2 mc2 ms2 (.ref (k + 2) :: [a0]) h Q2) (hc : h (k + 2) = (8, .inl fs)) (hdd : d2 < d ∧ d ≤ 9) (hrm : (S.map fun v => v.category).sum ≤ 8) (hf : cc + mc2 ≤ mc ∧ zz + ms2 ≤ ms) (kk : ∀ r h2, Q2 r h2 → V G mL_law (d, mc, ms, cc + mc2, zz + ms2) 585 L (r.toList ++ S) h2 Q) : V G mL_law (d, mc, ms, cc, zz) 582 L (a0 :: .ref (k + 2) :: S) h Q := V_callV (ci := 8) (T := TX8) (N := 33) hM dL_law_582 ⟨km_L_72, ki_X8_go, ks_X8_go⟩ cw_X8_go rfl hc (by decide) hdd rfl rfl hrm hf kk
theorem cL_law_591 {G : gx} {d mc ms cc zz d2 mc2 ms2 : Nat} {L : List (Option Value)} {S : List Value} {h : ah} {Q Q2 : Option Value → ah → Prop} {k : Nat} {fs : List Value} (hM : Ct G mX7_right d2 mc2 ms2 (.ref (k + 2) :: []) h Q2) (hc : h (k + 2) = (7, .inl fs)) (hdd : d2 < d ∧ d ≤ 9) (hrm : (S.map fun v => v.category).sum ≤ 8) (hf : cc + mc2 ≤ mc ∧ zz + ms2 ≤ ms) (kk : ∀ r h2, Q2 r h2 → V G mL_law (d, mc, ms, cc + mc2, zz + ms2) 594 L (r.toList ++ S) h2 Q) : V G mL_law (d, mc, ms, cc, zz) 591 L (.ref (k + 2) :: S) h Q := V_callV (ci := 7) (T := TX7) (N := 9) hM dL_law_591 ⟨km_L_73, ki_X7_right, ks_X7_right⟩ cw_X7_right rfl hc (by decide) hdd rfl rfl hrm hf kk
theorem cL_law_595 {G : gx} {d mc ms cc zz d2 mc2 ms2 : Nat} {L : List (Option Value)} {S : List Value} {h : ah} {Q Q2 : Option Value → ah → Prop} {k : Nat} {fs : List Value} (hM : Ct G mX8_right d2 mc2 ms2 (.ref (k + 2) :: []) h Q2) (hc : h (k + 2) = (8, .inl fs)) (hdd : d2 < d ∧ d ≤ 9) (hrm : (S.map fun v => v.category).sum ≤ 8) (hf : cc + mc2 ≤ mc ∧ zz + ms2 ≤ ms) (kk : ∀ r h2, Q2 r h2 → V G mL_law (d, mc, ms, cc + mc2, zz + ms2) 598 L (r.toList ++ S) h2 Q) : V G mL_law (d, mc, ms, cc, zz) 595 L (.ref (k + 2) :: S) h Q := V_callV (ci := 8) (T := TX8) (N := 33) hM dL_law_595 ⟨km_L_76, ki_X8_right, ks_X8_right⟩ cw_X8_right rfl hc (by decide) hdd rfl rfl hrm hf kk
theorem cL_law_614 {G : gx} {d mc ms cc zz d2 mc2 ms2 : Nat} {L : List (Option Value)} {S : List Value} {h : ah} {Q Q2 : Option Value → ah → Prop} {k : Nat} {fs : List Value} {a0 a1 : Value} (hM : Ct G mX7_exchange d2 mc2 ms2 (.ref (k + 2) :: [a0, a1]) h Q2) (hc : h (k + 2) = (7, .inl fs)) (hdd : d2 < d ∧ d ≤ 9) (hrm : (S.map fun v => v.category).sum ≤ 8) (hf : cc + mc2 ≤ mc ∧ zz + ms2 ≤ ms) (kk : ∀ r h2, Q2 r h2 → V G mL_law (d, mc, ms, cc + mc2, zz + ms2) 617 L (r.toList ++ S) h2 Q) : V G mL_law (d, mc, ms, cc, zz) 614 L (a1 :: a0 :: .ref (k + 2) :: S) h Q := V_callV (ci := 7) (T := TX7) (N := 9) hM dL_law_614 ⟨km_L_77, ki_X7_exchange, ks_X7_exchange⟩ cw_X7_exchange rfl hc (by decide) hdd rfl rfl hrm hf kk
theorem cL_law_628 {G : gx} {d mc ms cc zz d2 mc2 ms2 : Nat} {L : List (Option Value)} {S : List Value} {h : ah} {Q Q2 : Option Value → ah → Prop} {k : Nat} {fs : List Value} {a0 a1 : Value} (hM : Ct G mX8_exchange d2 mc2 ms2 (.ref (k + 2) :: [a0, a1]) h Q2) (hc : h (k + 2) = (8, .inl fs)) (hdd : d2 < d ∧ d ≤ 9) (hrm : (S.map fun v => v.category).sum ≤ 8) (hf : cc + mc2 ≤ mc ∧ zz + ms2 ≤ ms) (kk : ∀ r h2, Q2 r h2 → V G mL_law (d, mc, ms, cc + mc2, zz + ms2) 631 L (r.toList ++ S) h2 Q) : V G mL_law (d, mc, ms, cc, zz) 628 L (a1 :: a0 :: .ref (k + 2) :: S) h Q := V_callV (ci := 8) (T := TX8) (N := 33) hM dL_law_628 ⟨km_L_80, ki_X8_exchange, ks_X8_exchange⟩ cw_X8_exchange rfl hc (by decide) hdd rfl rfl hrm hf kk
theorem cL_law_637 {G : gx} {d mc ms cc zz d2 mc2 ms2 : Nat} {L : List (Option Value)} {S : List Value} {h : ah} {Q Q2 : Option Value → ah → Prop} {k : Nat} {fs : List Value} (hM : Ct G mX7_back d2 mc2 ms2 (.ref (k + 2) :: []) h Q2) (hc : h (k + 2) = (7, .inl fs)) (hdd : d2 < d ∧ d ≤ 9) (hrm : (S.map fun v => v.category).sum ≤ 8) (hf : cc + mc2 ≤ mc ∧ zz + ms2 ≤ ms) (kk : ∀ r h2, Q2 r h2 → V G mL_law (d, mc, ms, cc + mc2, zz + ms2) 640 L (r.toList ++ S) h2 Q) : V G mL_law (d, mc, ms, cc, zz) 637 L (.ref (k + 2) :: S) h Q := V_callV (ci := 7) (T := TX7) (N := 9) hM dL_law_637 ⟨km_L_81, ki_X7_back, ks_X7_back⟩ cw_X7_back rfl hc (by decide) hdd rfl rfl hrm hf kk
theorem cL_law_641 {G : gx} {d mc ms cc zz d2 mc2 ms2 : Nat} {L : List (Option Value)} {S : List Value} {h : ah} {Q Q2 : Option Value → ah → Prop} {k : Nat} {fs : List Value} (hM : Ct G mX8_back d2 mc2 ms2 (.ref (k + 2) :: []) h Q2) (hc : h (k + 2) = (8, .inl fs)) (hdd : d2 < d ∧ d ≤ 9) (hrm : (S.map fun v => v.category).sum ≤ 8) (hf : cc + mc2 ≤ mc ∧ zz + ms2 ≤ ms) (kk : ∀ r h2, Q2 r h2 → V G mL_law (d, mc, ms, cc + mc2, zz + ms2) 644 L (r.toList ++ S) h2 Q) : V G mL_law (d, mc, ms, cc, zz) 641 L (.ref (k + 2) :: S) h Q := V_callV (ci := 8) (T := TX8) (N := 33) hM dL_law_641 ⟨km_L_84, ki_X8_back, ks_X8_back⟩ cw_X8_back rfl hc (by decide) hdd rfl rfl hrm hf kk
theorem cL_law_650 {G : gx} {d mc ms cc zz d2 mc2 ms2 : Nat} {L : List (Option Value)} {S : List Value} {h : ah} {Q Q2 : Option Value → ah → Prop} {k : Nat} {fs : List Value} (hM : Ct G mX7_cycles d2 mc2 ms2 (.ref (k + 2) :: []) h Q2) (hc : h (k + 2) = (7, .inl fs)) (hdd : d2 < d ∧ d ≤ 9) (hrm : (S.map fun v => v.category).sum ≤ 8) (hf : cc + mc2 ≤ mc ∧ zz + ms2 ≤ ms) (kk : ∀ r h2, Q2 r h2 → V G mL_law (d, mc, ms, cc + mc2, zz + ms2) 653 L (r.toList ++ S) h2 Q) : V G mL_law (d, mc, ms, cc, zz) 650 L (.ref (k + 2) :: S) h Q := V_callV (ci := 7) (T := TX7) (N := 9) hM dL_law_650 ⟨km_L_85, ki_X7_cycles, ks_X7_cycles⟩ cw_X7_cycles rfl hc (by decide) hdd rfl rfl hrm hf kk
theorem cL_law_654 {G : gx} {d mc ms cc zz d2 mc2 ms2 : Nat} {L : List (Option Value)} {S : List Value} {h : ah} {Q Q2 : Option Value → ah → Prop} {k : Nat} {fs : List Value} (hM : Ct G mX8_cycles d2 mc2 ms2 (.ref (k + 2) :: []) h Q2) (hc : h (k + 2) = (8, .inl fs)) (hdd : d2 < d ∧ d ≤ 9) (hrm : (S.map fun v => v.category).sum ≤ 8) (hf : cc + mc2 ≤ mc ∧ zz + ms2 ≤ ms) (kk : ∀ r h2, Q2 r h2 → V G mL_law (d, mc, ms, cc + mc2, zz + ms2) 657 L (r.toList ++ S) h2 Q) : V G mL_law (d, mc, ms, cc, zz) 654 L (.ref (k + 2) :: S) h Q := V_callV (ci := 8) (T := TX8) (N := 33) hM dL_law_654 ⟨km_L_88, ki_X8_cycles, ks_X8_cycles⟩ cw_X8_cycles rfl hc (by decide) hdd rfl rfl hrm hf kk
theorem cL_law_668 {G : gx} {d mc ms cc zz d2 mc2 ms2 : Nat} {L : List (Option Value)} {S : List Value} {h : ah} {Q Q2 : Option Value → ah → Prop} {k : Nat} {fs : List Value} {a0 : Value} (hM : Ct G mX7_cycleOf d2 mc2 ms2 (.ref (k + 2) :: [a0]) h Q2) (hc : h (k + 2) = (7, .inl fs)) (hdd : d2 < d ∧ d ≤ 9) (hrm : (S.map fun v => v.category).sum ≤ 8) (hf : cc + mc2 ≤ mc ∧ zz + ms2 ≤ ms) (kk : ∀ r h2, Q2 r h2 → V G mL_law (d, mc, ms, cc + mc2, zz + ms2) 671 L (r.toList ++ S) h2 Q) : V G mL_law (d, mc, ms, cc, zz) 668 L (a0 :: .ref (k + 2) :: S) h Q := V_callV (ci := 7) (T := TX7) (N := 9) hM dL_law_668 ⟨km_L_89, ki_X7_cycleOf, ks_X7_cycleOf⟩ cw_X7_cycleOf rfl hc (by decide) hdd rfl rfl hrm hf kk
theorem cL_law_677 {G : gx} {d mc ms cc zz d2 mc2 ms2 : Nat} {L : List (Option Value)} {S : List Value} {h : ah} {Q Q2 : Option Value → ah → Prop} {k : Nat} {fs : List Value} {a0 : Value} (hM : Ct G mX8_cycleOf d2 mc2 ms2 (.ref (k + 2) :: [a0]) h Q2) (hc : h (k + 2) = (8, .inl fs)) (hdd : d2 < d ∧ d ≤ 9) (hrm : (S.map fun v => v.category).sum ≤ 8) (hf : cc + mc2 ≤ mc ∧ zz + ms2 ≤ ms) (kk : ∀ r h2, Q2 r h2 → V G mL_law (d, mc, ms, cc + mc2, zz + ms2) 680 L (r.toList ++ S) h2 Q) : V G mL_law (d, mc, ms, cc, zz) 677 L (a0 :: .ref (k + 2) :: S) h Q := V_callV (ci := 8) (T := TX8) (N := 33) hM dL_law_677 ⟨km_L_92, ki_X8_cycleOf, ks_X8_cycleOf⟩ cw_X8_cycleOf rfl hc (by decide) hdd rfl rfl hrm hf kk
theorem cL_law_696 {G : gx} {d mc ms cc zz d2 mc2 ms2 : Nat} {L : List (Option Value)} {S : List Value} {h : ah} {Q Q2 : Option Value → ah → Prop} {k : Nat} {fs : List Value} {a0 a1 : Value} (hM : Ct G mX7_cycle d2 mc2 ms2 (.ref (k + 2) :: [a0, a1]) h Q2) (hc : h (k + 2) = (7, .inl fs)) (hdd : d2 < d ∧ d ≤ 9) (hrm : (S.map fun v => v.category).sum ≤ 8) (hf : cc + mc2 ≤ mc ∧ zz + ms2 ≤ ms) (kk : ∀ r h2, Q2 r h2 → V G mL_law (d, mc, ms, cc + mc2, zz + ms2) 699 L (r.toList ++ S) h2 Q) : V G mL_law (d, mc, ms, cc, zz) 696 L (a1 :: a0 :: .ref (k + 2) :: S) h Q := V_callV (ci := 7) (T := TX7) (N := 9) hM dL_law_696 ⟨km_L_93, ki_X7_cycle, ks_X7_cycle⟩ cw_X7_cycle rfl hc (by decide) hdd rfl rfl hrm hf kk
theorem cL_law_710 {G : gx} {d mc ms cc zz d2 mc2 ms2 : Nat} {L : List (Option Value)} {S : List Value} {h : ah} {Q Q2 : Option Value → ah → Prop} {k : Nat} {fs : List Value} {a0 a1 : Value} (hM : Ct G mX8_cycle d2 mc2 ms2 (.ref (k + 2) :: [a0, a1]) h Q2) (hc : h (k + 2) = (8, .inl fs)) (hdd : d2 < d ∧ d ≤ 9) (hrm : (S.map fun v => v.category).sum ≤ 8) (hf : cc + mc2 ≤ mc ∧ zz + ms2 ≤ ms) (kk : ∀ r h2, Q2 r h2 → V G mL_law (d, mc, ms, cc + mc2, zz + ms2) 713 L (r.toList ++ S) h2 Q) : V G mL_law (d, mc, ms, cc, zz) 710 L (a1 :: a0 :: .ref (k + 2) :: S) h Q := V_callV (ci := 8) (T := TX8) (N := 33) hM dL_law_710 ⟨km_L_96, ki_X8_cycle, ks_X8_cycle⟩ cw_X8_cycle rfl hc (by decide) hdd rfl rfl hrm hf kk
theorem cL_law_719 {G : gx} {d mc ms cc zz d2 mc2 ms2 : Nat} {L : List (Option Value)} {S : List Value} {h : ah} {Q Q2 : Option Value → ah → Prop} {k : Nat} {fs : List Value} (hM : Ct G mX7_join d2 mc2 ms2 (.ref (k + 2) :: []) h Q2) (hc : h (k + 2) = (7, .inl fs)) (hdd : d2 < d ∧ d ≤ 9) (hrm : (S.map fun v => v.category).sum ≤ 8) (hf : cc + mc2 ≤ mc ∧ zz + ms2 ≤ ms) (kk : ∀ r h2, Q2 r h2 → V G mL_law (d, mc, ms, cc + mc2, zz + ms2) 722 L (r.toList ++ S) h2 Q) : V G mL_law (d, mc, ms, cc, zz) 719 L (.ref (k + 2) :: S) h Q := V_callV (ci := 7) (T := TX7) (N := 9) hM dL_law_719 ⟨km_L_97, ki_X7_join, ks_X7_join⟩ cw_X7_join rfl hc (by decide) hdd rfl rfl hrm hf kk
theorem cL_law_723 {G : gx} {d mc ms cc zz d2 mc2 ms2 : Nat} {L : List (Option Value)} {S : List Value} {h : ah} {Q Q2 : Option Value → ah → Prop} {k : Nat} {fs : List Value} (hM : Ct G mX8_join d2 mc2 ms2 (.ref (k + 2) :: []) h Q2) (hc : h (k + 2) = (8, .inl fs)) (hdd : d2 < d ∧ d ≤ 9) (hrm : (S.map fun v => v.category).sum ≤ 8) (hf : cc + mc2 ≤ mc ∧ zz + ms2 ≤ ms) (kk : ∀ r h2, Q2 r h2 → V G mL_law (d, mc, ms, cc + mc2, zz + ms2) 726 L (r.toList ++ S) h2 Q) : V G mL_law (d, mc, ms, cc, zz) 723 L (.ref (k + 2) :: S) h Q := V_callV (ci := 8) (T := TX8) (N := 33) hM dL_law_723 ⟨km_L_100, ki_X8_join, ks_X8_join⟩ cw_X8_join rfl hc (by decide) hdd rfl rfl hrm hf kk
theorem cL_law_737 {G : gx} {d mc ms cc zz d2 mc2 ms2 : Nat} {L : List (Option Value)} {S : List Value} {h : ah} {Q Q2 : Option Value → ah → Prop} {k : Nat} {fs : List Value} {a0 : Value} (hM : Ct G mX7_round d2 mc2 ms2 (.ref (k + 2) :: [a0]) h Q2) (hc : h (k + 2) = (7, .inl fs)) (hdd : d2 < d ∧ d ≤ 9) (hrm : (S.map fun v => v.category).sum ≤ 8) (hf : cc + mc2 ≤ mc ∧ zz + ms2 ≤ ms) (kk : ∀ r h2, Q2 r h2 → V G mL_law (d, mc, ms, cc + mc2, zz + ms2) 740 L (r.toList ++ S) h2 Q) : V G mL_law (d, mc, ms, cc, zz) 737 L (a0 :: .ref (k + 2) :: S) h Q := V_callV (ci := 7) (T := TX7) (N := 9) hM dL_law_737 ⟨km_L_101, ki_X7_round, ks_X7_round⟩ cw_X7_round rfl hc (by decide) hdd rfl rfl hrm hf kk
theorem cL_law_746 {G : gx} {d mc ms cc zz d2 mc2 ms2 : Nat} {L : List (Option Value)} {S : List Value} {h : ah} {Q Q2 : Option Value → ah → Prop} {k : Nat} {fs : List Value} {a0 : Value} (hM : Ct G mX8_round d2 mc2 ms2 (.ref (k + 2) :: [a0]) h Q2) (hc : h (k + 2) = (8, .inl fs)) (hdd : d2 < d ∧ d ≤ 9) (hrm : (S.map fun v => v.category).sum ≤ 8) (hf : cc + mc2 ≤ mc ∧ zz + ms2 ≤ ms) (kk : ∀ r h2, Q2 r h2 → V G mL_law (d, mc, ms, cc + mc2, zz + ms2) 749 L (r.toList ++ S) h2 Q) : V G mL_law (d, mc, ms, cc, zz) 746 L (a0 :: .ref (k + 2) :: S) h Q := V_callV (ci := 8) (T := TX8) (N := 33) hM dL_law_746 ⟨km_L_104, ki_X8_round, ks_X8_round⟩ cw_X8_round rfl hc (by decide) hdd rfl rfl hrm hf kk
theorem cL_law_760 {G : gx} {d mc ms cc zz d2 mc2 ms2 : Nat} {L : List (Option Value)} {S : List Value} {h : ah} {Q Q2 : Option Value → ah → Prop} {k : Nat} {fs : List Value} {a0 : Value} (hM : Ct G mX7_letter d2 mc2 ms2 (.ref (k + 2) :: [a0]) h Q2) (hc : h (k + 2) = (7, .inl fs)) (hdd : d2 < d ∧ d ≤ 9) (hrm : (S.map fun v => v.category).sum ≤ 8) (hf : cc + mc2 ≤ mc ∧ zz + ms2 ≤ ms) (kk : ∀ r h2, Q2 r h2 → V G mL_law (d, mc, ms, cc + mc2, zz + ms2) 763 L (r.toList ++ S) h2 Q) : V G mL_law (d, mc, ms, cc, zz) 760 L (a0 :: .ref (k + 2) :: S) h Q := V_callV (ci := 7) (T := TX7) (N := 9) hM dL_law_760 ⟨km_L_105, ki_X7_letter, ks_X7_letter⟩ cw_X7_letter rfl hc (by decide) hdd rfl rfl hrm hf kk
theorem cL_law_769 {G : gx} {d mc ms cc zz d2 mc2 ms2 : Nat} {L : List (Option Value)} {S : List Value} {h : ah} {Q Q2 : Option Value → ah → Prop} {k : Nat} {fs : List Value} {a0 : Value} (hM : Ct G mX8_letter d2 mc2 ms2 (.ref (k + 2) :: [a0]) h Q2) (hc : h (k + 2) = (8, .inl fs)) (hdd : d2 < d ∧ d ≤ 9) (hrm : (S.map fun v => v.category).sum ≤ 8) (hf : cc + mc2 ≤ mc ∧ zz + ms2 ≤ ms) (kk : ∀ r h2, Q2 r h2 → V G mL_law (d, mc, ms, cc + mc2, zz + ms2) 772 L (r.toList ++ S) h2 Q) : V G mL_law (d, mc, ms, cc, zz) 769 L (a0 :: .ref (k + 2) :: S) h Q := V_callV (ci := 8) (T := TX8) (N := 33) hM dL_law_769 ⟨km_L_108, ki_X8_letter, ks_X8_letter⟩ cw_X8_letter rfl hc (by decide) hdd rfl rfl hrm hf kk
theorem cL_law_783 {G : gx} {d mc ms cc zz d2 mc2 ms2 : Nat} {L : List (Option Value)} {S : List Value} {h : ah} {Q Q2 : Option Value → ah → Prop} {k : Nat} {fs : List Value} {a0 : Value} (hM : Ct G mX7_place d2 mc2 ms2 (.ref (k + 2) :: [a0]) h Q2) (hc : h (k + 2) = (7, .inl fs)) (hdd : d2 < d ∧ d ≤ 9) (hrm : (S.map fun v => v.category).sum ≤ 8) (hf : cc + mc2 ≤ mc ∧ zz + ms2 ≤ ms) (kk : ∀ r h2, Q2 r h2 → V G mL_law (d, mc, ms, cc + mc2, zz + ms2) 786 L (r.toList ++ S) h2 Q) : V G mL_law (d, mc, ms, cc, zz) 783 L (a0 :: .ref (k + 2) :: S) h Q := V_callV (ci := 7) (T := TX7) (N := 9) hM dL_law_783 ⟨km_L_109, ki_X7_place, ks_X7_place⟩ cw_X7_place rfl hc (by decide) hdd rfl rfl hrm hf kk
theorem cL_law_792 {G : gx} {d mc ms cc zz d2 mc2 ms2 : Nat} {L : List (Option Value)} {S : List Value} {h : ah} {Q Q2 : Option Value → ah → Prop} {k : Nat} {fs : List Value} {a0 : Value} (hM : Ct G mX8_place d2 mc2 ms2 (.ref (k + 2) :: [a0]) h Q2) (hc : h (k + 2) = (8, .inl fs)) (hdd : d2 < d ∧ d ≤ 9) (hrm : (S.map fun v => v.category).sum ≤ 8) (hf : cc + mc2 ≤ mc ∧ zz + ms2 ≤ ms) (kk : ∀ r h2, Q2 r h2 → V G mL_law (d, mc, ms, cc + mc2, zz + ms2) 795 L (r.toList ++ S) h2 Q) : V G mL_law (d, mc, ms, cc, zz) 792 L (a0 :: .ref (k + 2) :: S) h Q := V_callV (ci := 8) (T := TX8) (N := 33) hM dL_law_792 ⟨km_L_112, ki_X8_place, ks_X8_place⟩ cw_X8_place rfl hc (by decide) hdd rfl rfl hrm hf kk
theorem cL_law_811 {G : gx} {d mc ms cc zz d2 mc2 ms2 : Nat} {L : List (Option Value)} {S : List Value} {h : ah} {Q Q2 : Option Value → ah → Prop} {k : Nat} {fs : List Value} {a0 a1 : Value} (hM : Ct G mX7_way d2 mc2 ms2 (.ref (k + 2) :: [a0, a1]) h Q2) (hc : h (k + 2) = (7, .inl fs)) (hdd : d2 < d ∧ d ≤ 9) (hrm : (S.map fun v => v.category).sum ≤ 8) (hf : cc + mc2 ≤ mc ∧ zz + ms2 ≤ ms) (kk : ∀ r h2, Q2 r h2 → V G mL_law (d, mc, ms, cc + mc2, zz + ms2) 814 L (r.toList ++ S) h2 Q) : V G mL_law (d, mc, ms, cc, zz) 811 L (a1 :: a0 :: .ref (k + 2) :: S) h Q := V_callV (ci := 7) (T := TX7) (N := 9) hM dL_law_811 ⟨km_L_113, ki_X7_way, ks_X7_way⟩ cw_X7_way rfl hc (by decide) hdd rfl rfl hrm hf kk
theorem cL_law_825 {G : gx} {d mc ms cc zz d2 mc2 ms2 : Nat} {L : List (Option Value)} {S : List Value} {h : ah} {Q Q2 : Option Value → ah → Prop} {k : Nat} {fs : List Value} {a0 a1 : Value} (hM : Ct G mX8_way d2 mc2 ms2 (.ref (k + 2) :: [a0, a1]) h Q2) (hc : h (k + 2) = (8, .inl fs)) (hdd : d2 < d ∧ d ≤ 9) (hrm : (S.map fun v => v.category).sum ≤ 8) (hf : cc + mc2 ≤ mc ∧ zz + ms2 ≤ ms) (kk : ∀ r h2, Q2 r h2 → V G mL_law (d, mc, ms, cc + mc2, zz + ms2) 828 L (r.toList ++ S) h2 Q) : V G mL_law (d, mc, ms, cc, zz) 825 L (a1 :: a0 :: .ref (k + 2) :: S) h Q := V_callV (ci := 8) (T := TX8) (N := 33) hM dL_law_825 ⟨km_L_116, ki_X8_way, ks_X8_way⟩ cw_X8_way rfl hc (by decide) hdd rfl rfl hrm hf kk
theorem cL_law_849 {G : gx} {d mc ms cc zz d2 mc2 ms2 : Nat} {L : List (Option Value)} {S : List Value} {h : ah} {Q Q2 : Option Value → ah → Prop} {k : Nat} {fs : List Value} {a0 a1 a2 : Value} (hM : Ct G mX7_tape d2 mc2 ms2 (.ref (k + 2) :: [a0, a1, a2]) h Q2) (hc : h (k + 2) = (7, .inl fs)) (hdd : d2 < d ∧ d ≤ 9) (hrm : (S.map fun v => v.category).sum ≤ 8) (hf : cc + mc2 ≤ mc ∧ zz + ms2 ≤ ms) (kk : ∀ r h2, Q2 r h2 → V G mL_law (d, mc, ms, cc + mc2, zz + ms2) 852 L (r.toList ++ S) h2 Q) : V G mL_law (d, mc, ms, cc, zz) 849 L (a2 :: a1 :: a0 :: .ref (k + 2) :: S) h Q := V_callV (ci := 7) (T := TX7) (N := 9) hM dL_law_849 ⟨km_L_117, ki_X7_tape, ks_X7_tape⟩ cw_X7_tape rfl hc (by decide) hdd rfl rfl hrm hf kk
theorem cL_law_868 {G : gx} {d mc ms cc zz d2 mc2 ms2 : Nat} {L : List (Option Value)} {S : List Value} {h : ah} {Q Q2 : Option Value → ah → Prop} {k : Nat} {fs : List Value} {a0 a1 a2 : Value} (hM : Ct G mX8_tape d2 mc2 ms2 (.ref (k + 2) :: [a0, a1, a2]) h Q2) (hc : h (k + 2) = (8, .inl fs)) (hdd : d2 < d ∧ d ≤ 9) (hrm : (S.map fun v => v.category).sum ≤ 8) (hf : cc + mc2 ≤ mc ∧ zz + ms2 ≤ ms) (kk : ∀ r h2, Q2 r h2 → V G mL_law (d, mc, ms, cc + mc2, zz + ms2) 871 L (r.toList ++ S) h2 Q) : V G mL_law (d, mc, ms, cc, zz) 868 L (a2 :: a1 :: a0 :: .ref (k + 2) :: S) h Q := V_callV (ci := 8) (T := TX8) (N := 33) hM dL_law_868 ⟨km_L_121, ki_X8_tape, ks_X8_tape⟩ cw_X8_tape rfl hc (by decide) hdd rfl rfl hrm hf kk
theorem cL_law_882 {G : gx} {d mc ms cc zz d2 mc2 ms2 : Nat} {L : List (Option Value)} {S : List Value} {h : ah} {Q Q2 : Option Value → ah → Prop} {k : Nat} {fs : List Value} {a0 : Value} (hM : Ct G mX7_lose d2 mc2 ms2 (.ref (k + 2) :: [a0]) h Q2) (hc : h (k + 2) = (7, .inl fs)) (hdd : d2 < d ∧ d ≤ 9) (hrm : (S.map fun v => v.category).sum ≤ 8) (hf : cc + mc2 ≤ mc ∧ zz + ms2 ≤ ms) (kk : ∀ r h2, Q2 r h2 → V G mL_law (d, mc, ms, cc + mc2, zz + ms2) 885 L (r.toList ++ S) h2 Q) : V G mL_law (d, mc, ms, cc, zz) 882 L (a0 :: .ref (k + 2) :: S) h Q := V_callV (ci := 7) (T := TX7) (N := 9) hM dL_law_882 ⟨km_L_122, ki_X7_lose, ks_X7_lose⟩ cw_X7_lose rfl hc (by decide) hdd rfl rfl hrm hf kk
theorem cL_law_891 {G : gx} {d mc ms cc zz d2 mc2 ms2 : Nat} {L : List (Option Value)} {S : List Value} {h : ah} {Q Q2 : Option Value → ah → Prop} {k : Nat} {fs : List Value} {a0 : Value} (hM : Ct G mX8_lose d2 mc2 ms2 (.ref (k + 2) :: [a0]) h Q2) (hc : h (k + 2) = (8, .inl fs)) (hdd : d2 < d ∧ d ≤ 9) (hrm : (S.map fun v => v.category).sum ≤ 8) (hf : cc + mc2 ≤ mc ∧ zz + ms2 ≤ ms) (kk : ∀ r h2, Q2 r h2 → V G mL_law (d, mc, ms, cc + mc2, zz + ms2) 894 L (r.toList ++ S) h2 Q) : V G mL_law (d, mc, ms, cc, zz) 891 L (a0 :: .ref (k + 2) :: S) h Q := V_callV (ci := 8) (T := TX8) (N := 33) hM dL_law_891 ⟨km_L_125, ki_X8_lose, ks_X8_lose⟩ cw_X8_lose rfl hc (by decide) hdd rfl rfl hrm hf kk
theorem cL_law_920 {G : gx} {d mc ms cc zz d2 mc2 ms2 : Nat} {L : List (Option Value)} {S : List Value} {h : ah} {Q Q2 : Option Value → ah → Prop} {k : Nat} {fs : List Value} {a0 a1 a2 a3 : Value} (hM : Ct G mX7_put d2 mc2 ms2 (.ref (k + 2) :: [a0, a1, a2, a3]) h Q2) (hc : h (k + 2) = (7, .inl fs)) (hdd : d2 < d ∧ d ≤ 9) (hrm : (S.map fun v => v.category).sum ≤ 8) (hf : cc + mc2 ≤ mc ∧ zz + ms2 ≤ ms) (kk : ∀ r h2, Q2 r h2 → V G mL_law (d, mc, ms, cc + mc2, zz + ms2) 923 L (r.toList ++ S) h2 Q) : V G mL_law (d, mc, ms, cc, zz) 920 L (a3 :: a2 :: a1 :: a0 :: .ref (k + 2) :: S) h Q := V_callV (ci := 7) (T := TX7) (N := 9) hM dL_law_920 ⟨km_L_126, ki_X7_put, ks_X7_put⟩ cw_X7_put rfl hc (by decide) hdd rfl rfl hrm hf kk
theorem cL_law_944 {G : gx} {d mc ms cc zz d2 mc2 ms2 : Nat} {L : List (Option Value)} {S : List Value} {h : ah} {Q Q2 : Option Value → ah → Prop} {k : Nat} {fs : List Value} {a0 a1 a2 a3 : Value} (hM : Ct G mX8_put d2 mc2 ms2 (.ref (k + 2) :: [a0, a1, a2, a3]) h Q2) (hc : h (k + 2) = (8, .inl fs)) (hdd : d2 < d ∧ d ≤ 9) (hrm : (S.map fun v => v.category).sum ≤ 8) (hf : cc + mc2 ≤ mc ∧ zz + ms2 ≤ ms) (kk : ∀ r h2, Q2 r h2 → V G mL_law (d, mc, ms, cc + mc2, zz + ms2) 947 L (r.toList ++ S) h2 Q) : V G mL_law (d, mc, ms, cc, zz) 944 L (a3 :: a2 :: a1 :: a0 :: .ref (k + 2) :: S) h Q := V_callV (ci := 8) (T := TX8) (N := 33) hM dL_law_944 ⟨km_L_130, ki_X8_put, ks_X8_put⟩ cw_X8_put rfl hc (by decide) hdd rfl rfl hrm hf kk
theorem cL_law_968 {G : gx} {d mc ms cc zz d2 mc2 ms2 : Nat} {L : List (Option Value)} {S : List Value} {h : ah} {Q Q2 : Option Value → ah → Prop} {k : Nat} {fs : List Value} {a0 a1 a2 : Value} (hM : Ct G mX7_get d2 mc2 ms2 (.ref (k + 2) :: [a0, a1, a2]) h Q2) (hc : h (k + 2) = (7, .inl fs)) (hdd : d2 < d ∧ d ≤ 9) (hrm : (S.map fun v => v.category).sum ≤ 8) (hf : cc + mc2 ≤ mc ∧ zz + ms2 ≤ ms) (kk : ∀ r h2, Q2 r h2 → V G mL_law (d, mc, ms, cc + mc2, zz + ms2) 971 L (r.toList ++ S) h2 Q) : V G mL_law (d, mc, ms, cc, zz) 968 L (a2 :: a1 :: a0 :: .ref (k + 2) :: S) h Q := V_callV (ci := 7) (T := TX7) (N := 9) hM dL_law_968 ⟨km_L_131, ki_X7_get, ks_X7_get⟩ cw_X7_get rfl hc (by decide) hdd rfl rfl hrm hf kk
theorem cL_law_987 {G : gx} {d mc ms cc zz d2 mc2 ms2 : Nat} {L : List (Option Value)} {S : List Value} {h : ah} {Q Q2 : Option Value → ah → Prop} {k : Nat} {fs : List Value} {a0 a1 a2 : Value} (hM : Ct G mX8_get d2 mc2 ms2 (.ref (k + 2) :: [a0, a1, a2]) h Q2) (hc : h (k + 2) = (8, .inl fs)) (hdd : d2 < d ∧ d ≤ 9) (hrm : (S.map fun v => v.category).sum ≤ 8) (hf : cc + mc2 ≤ mc ∧ zz + ms2 ≤ ms) (kk : ∀ r h2, Q2 r h2 → V G mL_law (d, mc, ms, cc + mc2, zz + ms2) 990 L (r.toList ++ S) h2 Q) : V G mL_law (d, mc, ms, cc, zz) 987 L (a2 :: a1 :: a0 :: .ref (k + 2) :: S) h Q := V_callV (ci := 8) (T := TX8) (N := 33) hM dL_law_987 ⟨km_L_134, ki_X8_get, ks_X8_get⟩ cw_X8_get rfl hc (by decide) hdd rfl rfl hrm hf kk
theorem cL_law_1021 {G : gx} {d mc ms cc zz d2 mc2 ms2 : Nat} {L : List (Option Value)} {S : List Value} {h : ah} {Q Q2 : Option Value → ah → Prop} {k : Nat} {fs : List Value} {a0 a1 a2 a3 a4 : Value} (hM : Ct G mX7_copy d2 mc2 ms2 (.ref (k + 2) :: [a0, a1, a2, a3, a4]) h Q2) (hc : h (k + 2) = (7, .inl fs)) (hdd : d2 < d ∧ d ≤ 9) (hrm : (S.map fun v => v.category).sum ≤ 8) (hf : cc + mc2 ≤ mc ∧ zz + ms2 ≤ ms) (kk : ∀ r h2, Q2 r h2 → V G mL_law (d, mc, ms, cc + mc2, zz + ms2) 1024 L (r.toList ++ S) h2 Q) : V G mL_law (d, mc, ms, cc, zz) 1021 L (a4 :: a3 :: a2 :: a1 :: a0 :: .ref (k + 2) :: S) h Q := V_callV (ci := 7) (T := TX7) (N := 9) hM dL_law_1021 ⟨km_L_135, ki_X7_copy, ks_X7_copy⟩ cw_X7_copy rfl hc (by decide) hdd rfl rfl hrm hf kk
theorem cL_law_1050 {G : gx} {d mc ms cc zz d2 mc2 ms2 : Nat} {L : List (Option Value)} {S : List Value} {h : ah} {Q Q2 : Option Value → ah → Prop} {k : Nat} {fs : List Value} {a0 a1 a2 a3 a4 : Value} (hM : Ct G mX8_copy d2 mc2 ms2 (.ref (k + 2) :: [a0, a1, a2, a3, a4]) h Q2) (hc : h (k + 2) = (8, .inl fs)) (hdd : d2 < d ∧ d ≤ 9) (hrm : (S.map fun v => v.category).sum ≤ 8) (hf : cc + mc2 ≤ mc ∧ zz + ms2 ≤ ms) (kk : ∀ r h2, Q2 r h2 → V G mL_law (d, mc, ms, cc + mc2, zz + ms2) 1053 L (r.toList ++ S) h2 Q) : V G mL_law (d, mc, ms, cc, zz) 1050 L (a4 :: a3 :: a2 :: a1 :: a0 :: .ref (k + 2) :: S) h Q := V_callV (ci := 8) (T := TX8) (N := 33) hM dL_law_1050 ⟨km_L_138, ki_X8_copy, ks_X8_copy⟩ cw_X8_copy rfl hc (by decide) hdd rfl rfl hrm hf kk
theorem cL_law_1079 {G : gx} {d mc ms cc zz d2 mc2 ms2 : Nat} {L : List (Option Value)} {S : List Value} {h : ah} {Q Q2 : Option Value → ah → Prop} {k : Nat} {fs : List Value} {a0 a1 a2 a3 : Value} (hM : Ct G mX7_print d2 mc2 ms2 (.ref (k + 2) :: [a0, a1, a2, a3]) h Q2) (hc : h (k + 2) = (7, .inl fs)) (hdd : d2 < d ∧ d ≤ 9) (hrm : (S.map fun v => v.category).sum ≤ 8) (hf : cc + mc2 ≤ mc ∧ zz + ms2 ≤ ms) (kk : ∀ r h2, Q2 r h2 → V G mL_law (d, mc, ms, cc + mc2, zz + ms2) 1082 L (r.toList ++ S) h2 Q) : V G mL_law (d, mc, ms, cc, zz) 1079 L (a3 :: a2 :: a1 :: a0 :: .ref (k + 2) :: S) h Q := V_callV (ci := 7) (T := TX7) (N := 9) hM dL_law_1079 ⟨km_L_139, ki_X7_print, ks_X7_print⟩ cw_X7_print rfl hc (by decide) hdd rfl rfl hrm hf kk
theorem cL_law_1103 {G : gx} {d mc ms cc zz d2 mc2 ms2 : Nat} {L : List (Option Value)} {S : List Value} {h : ah} {Q Q2 : Option Value → ah → Prop} {k : Nat} {fs : List Value} {a0 a1 a2 a3 : Value} (hM : Ct G mX8_print d2 mc2 ms2 (.ref (k + 2) :: [a0, a1, a2, a3]) h Q2) (hc : h (k + 2) = (8, .inl fs)) (hdd : d2 < d ∧ d ≤ 9) (hrm : (S.map fun v => v.category).sum ≤ 8) (hf : cc + mc2 ≤ mc ∧ zz + ms2 ≤ ms) (kk : ∀ r h2, Q2 r h2 → V G mL_law (d, mc, ms, cc + mc2, zz + ms2) 1106 L (r.toList ++ S) h2 Q) : V G mL_law (d, mc, ms, cc, zz) 1103 L (a3 :: a2 :: a1 :: a0 :: .ref (k + 2) :: S) h Q := V_callV (ci := 8) (T := TX8) (N := 33) hM dL_law_1103 ⟨km_L_142, ki_X8_print, ks_X8_print⟩ cw_X8_print rfl hc (by decide) hdd rfl rfl hrm hf kk
theorem cL_law_1132 {G : gx} {d mc ms cc zz d2 mc2 ms2 : Nat} {L : List (Option Value)} {S : List Value} {h : ah} {Q Q2 : Option Value → ah → Prop} {k : Nat} {fs : List Value} {a0 a1 a2 a3 : Value} (hM : Ct G mX7_find d2 mc2 ms2 (.ref (k + 2) :: [a0, a1, a2, a3]) h Q2) (hc : h (k + 2) = (7, .inl fs)) (hdd : d2 < d ∧ d ≤ 9) (hrm : (S.map fun v => v.category).sum ≤ 8) (hf : cc + mc2 ≤ mc ∧ zz + ms2 ≤ ms) (kk : ∀ r h2, Q2 r h2 → V G mL_law (d, mc, ms, cc + mc2, zz + ms2) 1135 L (r.toList ++ S) h2 Q) : V G mL_law (d, mc, ms, cc, zz) 1132 L (a3 :: a2 :: a1 :: a0 :: .ref (k + 2) :: S) h Q := V_callV (ci := 7) (T := TX7) (N := 9) hM dL_law_1132 ⟨km_L_143, ki_X7_find, ks_X7_find⟩ cw_X7_find rfl hc (by decide) hdd rfl rfl hrm hf kk
theorem cL_law_1156 {G : gx} {d mc ms cc zz d2 mc2 ms2 : Nat} {L : List (Option Value)} {S : List Value} {h : ah} {Q Q2 : Option Value → ah → Prop} {k : Nat} {fs : List Value} {a0 a1 a2 a3 : Value} (hM : Ct G mX8_find d2 mc2 ms2 (.ref (k + 2) :: [a0, a1, a2, a3]) h Q2) (hc : h (k + 2) = (8, .inl fs)) (hdd : d2 < d ∧ d ≤ 9) (hrm : (S.map fun v => v.category).sum ≤ 8) (hf : cc + mc2 ≤ mc ∧ zz + ms2 ≤ ms) (kk : ∀ r h2, Q2 r h2 → V G mL_law (d, mc, ms, cc + mc2, zz + ms2) 1159 L (r.toList ++ S) h2 Q) : V G mL_law (d, mc, ms, cc, zz) 1156 L (a3 :: a2 :: a1 :: a0 :: .ref (k + 2) :: S) h Q := V_callV (ci := 8) (T := TX8) (N := 33) hM dL_law_1156 ⟨km_L_146, ki_X8_find, ks_X8_find⟩ cw_X8_find rfl hc (by decide) hdd rfl rfl hrm hf kk
theorem cL_law_1165 {G : gx} {d mc ms cc zz d2 mc2 ms2 : Nat} {L : List (Option Value)} {S : List Value} {h : ah} {Q Q2 : Option Value → ah → Prop} {k : Nat} {fs : List Value} (hM : Ct G mX7_found d2 mc2 ms2 (.ref (k + 2) :: []) h Q2) (hc : h (k + 2) = (7, .inl fs)) (hdd : d2 < d ∧ d ≤ 9) (hrm : (S.map fun v => v.category).sum ≤ 8) (hf : cc + mc2 ≤ mc ∧ zz + ms2 ≤ ms) (kk : ∀ r h2, Q2 r h2 → V G mL_law (d, mc, ms, cc + mc2, zz + ms2) 1168 L (r.toList ++ S) h2 Q) : V G mL_law (d, mc, ms, cc, zz) 1165 L (.ref (k + 2) :: S) h Q := V_callV (ci := 7) (T := TX7) (N := 9) hM dL_law_1165 ⟨km_L_147, ki_X7_found, ks_X7_found⟩ cw_X7_found rfl hc (by decide) hdd rfl rfl hrm hf kk
theorem cL_law_1169 {G : gx} {d mc ms cc zz d2 mc2 ms2 : Nat} {L : List (Option Value)} {S : List Value} {h : ah} {Q Q2 : Option Value → ah → Prop} {k : Nat} {fs : List Value} (hM : Ct G mX8_found d2 mc2 ms2 (.ref (k + 2) :: []) h Q2) (hc : h (k + 2) = (8, .inl fs)) (hdd : d2 < d ∧ d ≤ 9) (hrm : (S.map fun v => v.category).sum ≤ 8) (hf : cc + mc2 ≤ mc ∧ zz + ms2 ≤ ms) (kk : ∀ r h2, Q2 r h2 → V G mL_law (d, mc, ms, cc + mc2, zz + ms2) 1172 L (r.toList ++ S) h2 Q) : V G mL_law (d, mc, ms, cc, zz) 1169 L (.ref (k + 2) :: S) h Q := V_callV (ci := 8) (T := TX8) (N := 33) hM dL_law_1169 ⟨km_L_150, ki_X8_found, ks_X8_found⟩ cw_X8_found rfl hc (by decide) hdd rfl rfl hrm hf kk
theorem cL_law_1183 {G : gx} {d mc ms cc zz d2 mc2 ms2 : Nat} {L : List (Option Value)} {S : List Value} {h : ah} {Q Q2 : Option Value → ah → Prop} {k : Nat} {fs : List Value} {a0 : Value} (hM : Ct G mX7_twice d2 mc2 ms2 (.ref (k + 2) :: [a0]) h Q2) (hc : h (k + 2) = (7, .inl fs)) (hdd : d2 < d ∧ d ≤ 9) (hrm : (S.map fun v => v.category).sum ≤ 8) (hf : cc + mc2 ≤ mc ∧ zz + ms2 ≤ ms) (kk : ∀ r h2, Q2 r h2 → V G mL_law (d, mc, ms, cc + mc2, zz + ms2) 1186 L (r.toList ++ S) h2 Q) : V G mL_law (d, mc, ms, cc, zz) 1183 L (a0 :: .ref (k + 2) :: S) h Q := V_callV (ci := 7) (T := TX7) (N := 9) hM dL_law_1183 ⟨km_L_151, ki_X7_twice, ks_X7_twice⟩ cw_X7_twice rfl hc (by decide) hdd rfl rfl hrm hf kk
theorem cL_law_1192 {G : gx} {d mc ms cc zz d2 mc2 ms2 : Nat} {L : List (Option Value)} {S : List Value} {h : ah} {Q Q2 : Option Value → ah → Prop} {k : Nat} {fs : List Value} {a0 : Value} (hM : Ct G mX8_twice d2 mc2 ms2 (.ref (k + 2) :: [a0]) h Q2) (hc : h (k + 2) = (8, .inl fs)) (hdd : d2 < d ∧ d ≤ 9) (hrm : (S.map fun v => v.category).sum ≤ 8) (hf : cc + mc2 ≤ mc ∧ zz + ms2 ≤ ms) (kk : ∀ r h2, Q2 r h2 → V G mL_law (d, mc, ms, cc + mc2, zz + ms2) 1195 L (r.toList ++ S) h2 Q) : V G mL_law (d, mc, ms, cc, zz) 1192 L (a0 :: .ref (k + 2) :: S) h Q := V_callV (ci := 8) (T := TX8) (N := 33) hM dL_law_1192 ⟨km_L_154, ki_X8_twice, ks_X8_twice⟩ cw_X8_twice rfl hc (by decide) hdd rfl rfl hrm hf kk
theorem cL_law_1206 {G : gx} {d mc ms cc zz d2 mc2 ms2 : Nat} {L : List (Option Value)} {S : List Value} {h : ah} {Q Q2 : Option Value → ah → Prop} {k : Nat} {fs : List Value} {a0 : Value} (hM : Ct G mX7_parts d2 mc2 ms2 (.ref (k + 2) :: [a0]) h Q2) (hc : h (k + 2) = (7, .inl fs)) (hdd : d2 < d ∧ d ≤ 9) (hrm : (S.map fun v => v.category).sum ≤ 8) (hf : cc + mc2 ≤ mc ∧ zz + ms2 ≤ ms) (kk : ∀ r h2, Q2 r h2 → V G mL_law (d, mc, ms, cc + mc2, zz + ms2) 1209 L (r.toList ++ S) h2 Q) : V G mL_law (d, mc, ms, cc, zz) 1206 L (a0 :: .ref (k + 2) :: S) h Q := V_callV (ci := 7) (T := TX7) (N := 9) hM dL_law_1206 ⟨km_L_155, ki_X7_parts, ks_X7_parts⟩ cw_X7_parts rfl hc (by decide) hdd rfl rfl hrm hf kk
theorem cL_law_1215 {G : gx} {d mc ms cc zz d2 mc2 ms2 : Nat} {L : List (Option Value)} {S : List Value} {h : ah} {Q Q2 : Option Value → ah → Prop} {k : Nat} {fs : List Value} {a0 : Value} (hM : Ct G mX8_parts d2 mc2 ms2 (.ref (k + 2) :: [a0]) h Q2) (hc : h (k + 2) = (8, .inl fs)) (hdd : d2 < d ∧ d ≤ 9) (hrm : (S.map fun v => v.category).sum ≤ 8) (hf : cc + mc2 ≤ mc ∧ zz + ms2 ≤ ms) (kk : ∀ r h2, Q2 r h2 → V G mL_law (d, mc, ms, cc + mc2, zz + ms2) 1218 L (r.toList ++ S) h2 Q) : V G mL_law (d, mc, ms, cc, zz) 1215 L (a0 :: .ref (k + 2) :: S) h Q := V_callV (ci := 8) (T := TX8) (N := 33) hM dL_law_1215 ⟨km_L_158, ki_X8_parts, ks_X8_parts⟩ cw_X8_parts rfl hc (by decide) hdd rfl rfl hrm hf kk
theorem cL_law_1229 {G : gx} {d mc ms cc zz d2 mc2 ms2 : Nat} {L : List (Option Value)} {S : List Value} {h : ah} {Q Q2 : Option Value → ah → Prop} {k : Nat} {fs : List Value} {a0 : Value} (hM : Ct G mX7_part d2 mc2 ms2 (.ref (k + 2) :: [a0]) h Q2) (hc : h (k + 2) = (7, .inl fs)) (hdd : d2 < d ∧ d ≤ 9) (hrm : (S.map fun v => v.category).sum ≤ 8) (hf : cc + mc2 ≤ mc ∧ zz + ms2 ≤ ms) (kk : ∀ r h2, Q2 r h2 → V G mL_law (d, mc, ms, cc + mc2, zz + ms2) 1232 L (r.toList ++ S) h2 Q) : V G mL_law (d, mc, ms, cc, zz) 1229 L (a0 :: .ref (k + 2) :: S) h Q := V_callV (ci := 7) (T := TX7) (N := 9) hM dL_law_1229 ⟨km_L_159, ki_X7_part, ks_X7_part⟩ cw_X7_part rfl hc (by decide) hdd rfl rfl hrm hf kk
theorem cL_law_1238 {G : gx} {d mc ms cc zz d2 mc2 ms2 : Nat} {L : List (Option Value)} {S : List Value} {h : ah} {Q Q2 : Option Value → ah → Prop} {k : Nat} {fs : List Value} {a0 : Value} (hM : Ct G mX8_part d2 mc2 ms2 (.ref (k + 2) :: [a0]) h Q2) (hc : h (k + 2) = (8, .inl fs)) (hdd : d2 < d ∧ d ≤ 9) (hrm : (S.map fun v => v.category).sum ≤ 8) (hf : cc + mc2 ≤ mc ∧ zz + ms2 ≤ ms) (kk : ∀ r h2, Q2 r h2 → V G mL_law (d, mc, ms, cc + mc2, zz + ms2) 1241 L (r.toList ++ S) h2 Q) : V G mL_law (d, mc, ms, cc, zz) 1238 L (a0 :: .ref (k + 2) :: S) h Q := V_callV (ci := 8) (T := TX8) (N := 33) hM dL_law_1238 ⟨km_L_162, ki_X8_part, ks_X8_part⟩ cw_X8_part rfl hc (by decide) hdd rfl rfl hrm hf kk
theorem cL_law_1252 {G : gx} {d mc ms cc zz d2 mc2 ms2 : Nat} {L : List (Option Value)} {S : List Value} {h : ah} {Q Q2 : Option Value → ah → Prop} {k : Nat} {fs : List Value} {a0 : Value} (hM : Ct G mX7_recurrence d2 mc2 ms2 (.ref (k + 2) :: [a0]) h Q2) (hc : h (k + 2) = (7, .inl fs)) (hdd : d2 < d ∧ d ≤ 9) (hrm : (S.map fun v => v.category).sum ≤ 8) (hf : cc + mc2 ≤ mc ∧ zz + ms2 ≤ ms) (kk : ∀ r h2, Q2 r h2 → V G mL_law (d, mc, ms, cc + mc2, zz + ms2) 1255 L (r.toList ++ S) h2 Q) : V G mL_law (d, mc, ms, cc, zz) 1252 L (a0 :: .ref (k + 2) :: S) h Q := V_callV (ci := 7) (T := TX7) (N := 9) hM dL_law_1252 ⟨km_L_163, ki_X7_recurrence, ks_X7_recurrence⟩ cw_X7_recurrence rfl hc (by decide) hdd rfl rfl hrm hf kk
theorem cL_law_1261 {G : gx} {d mc ms cc zz d2 mc2 ms2 : Nat} {L : List (Option Value)} {S : List Value} {h : ah} {Q Q2 : Option Value → ah → Prop} {k : Nat} {fs : List Value} {a0 : Value} (hM : Ct G mX8_recurrence d2 mc2 ms2 (.ref (k + 2) :: [a0]) h Q2) (hc : h (k + 2) = (8, .inl fs)) (hdd : d2 < d ∧ d ≤ 9) (hrm : (S.map fun v => v.category).sum ≤ 8) (hf : cc + mc2 ≤ mc ∧ zz + ms2 ≤ ms) (kk : ∀ r h2, Q2 r h2 → V G mL_law (d, mc, ms, cc + mc2, zz + ms2) 1264 L (r.toList ++ S) h2 Q) : V G mL_law (d, mc, ms, cc, zz) 1261 L (a0 :: .ref (k + 2) :: S) h Q := V_callV (ci := 8) (T := TX8) (N := 33) hM dL_law_1261 ⟨km_L_166, ki_X8_recurrence, ks_X8_recurrence⟩ cw_X8_recurrence rfl hc (by decide) hdd rfl rfl hrm hf kk
theorem cL_law_1275 {G : gx} {d mc ms cc zz d2 mc2 ms2 : Nat} {L : List (Option Value)} {S : List Value} {h : ah} {Q Q2 : Option Value → ah → Prop} {k : Nat} {fs : List Value} {a0 : Value} (hM : Ct G mX7_coefficient d2 mc2 ms2 (.ref (k + 2) :: [a0]) h Q2) (hc : h (k + 2) = (7, .inl fs)) (hdd : d2 < d ∧ d ≤ 9) (hrm : (S.map fun v => v.category).sum ≤ 8) (hf : cc + mc2 ≤ mc ∧ zz + ms2 ≤ ms) (kk : ∀ r h2, Q2 r h2 → V G mL_law (d, mc, ms, cc + mc2, zz + ms2) 1278 L (r.toList ++ S) h2 Q) : V G mL_law (d, mc, ms, cc, zz) 1275 L (a0 :: .ref (k + 2) :: S) h Q := V_callV (ci := 7) (T := TX7) (N := 9) hM dL_law_1275 ⟨km_L_167, ki_X7_coefficient, ks_X7_coefficient⟩ cw_X7_coefficient rfl hc (by decide) hdd rfl rfl hrm hf kk
theorem cL_law_1284 {G : gx} {d mc ms cc zz d2 mc2 ms2 : Nat} {L : List (Option Value)} {S : List Value} {h : ah} {Q Q2 : Option Value → ah → Prop} {k : Nat} {fs : List Value} {a0 : Value} (hM : Ct G mX8_coefficient d2 mc2 ms2 (.ref (k + 2) :: [a0]) h Q2) (hc : h (k + 2) = (8, .inl fs)) (hdd : d2 < d ∧ d ≤ 9) (hrm : (S.map fun v => v.category).sum ≤ 8) (hf : cc + mc2 ≤ mc ∧ zz + ms2 ≤ ms) (kk : ∀ r h2, Q2 r h2 → V G mL_law (d, mc, ms, cc + mc2, zz + ms2) 1287 L (r.toList ++ S) h2 Q) : V G mL_law (d, mc, ms, cc, zz) 1284 L (a0 :: .ref (k + 2) :: S) h Q := V_callV (ci := 8) (T := TX8) (N := 33) hM dL_law_1284 ⟨km_L_170, ki_X8_coefficient, ks_X8_coefficient⟩ cw_X8_coefficient rfl hc (by decide) hdd rfl rfl hrm hf kk
theorem cL_law_1298 {G : gx} {d mc ms cc zz d2 mc2 ms2 : Nat} {L : List (Option Value)} {S : List Value} {h : ah} {Q Q2 : Option Value → ah → Prop} {k : Nat} {fs : List Value} {a0 : Value} (hM : Ct G mX7_count d2 mc2 ms2 (.ref (k + 2) :: [a0]) h Q2) (hc : h (k + 2) = (7, .inl fs)) (hdd : d2 < d ∧ d ≤ 9) (hrm : (S.map fun v => v.category).sum ≤ 8) (hf : cc + mc2 ≤ mc ∧ zz + ms2 ≤ ms) (kk : ∀ r h2, Q2 r h2 → V G mL_law (d, mc, ms, cc + mc2, zz + ms2) 1301 L (r.toList ++ S) h2 Q) : V G mL_law (d, mc, ms, cc, zz) 1298 L (a0 :: .ref (k + 2) :: S) h Q := V_callV (ci := 7) (T := TX7) (N := 9) hM dL_law_1298 ⟨km_L_171, ki_X7_count, ks_X7_count⟩ cw_X7_count rfl hc (by decide) hdd rfl rfl hrm hf kk
theorem cL_law_1307 {G : gx} {d mc ms cc zz d2 mc2 ms2 : Nat} {L : List (Option Value)} {S : List Value} {h : ah} {Q Q2 : Option Value → ah → Prop} {k : Nat} {fs : List Value} {a0 : Value} (hM : Ct G mX8_count d2 mc2 ms2 (.ref (k + 2) :: [a0]) h Q2) (hc : h (k + 2) = (8, .inl fs)) (hdd : d2 < d ∧ d ≤ 9) (hrm : (S.map fun v => v.category).sum ≤ 8) (hf : cc + mc2 ≤ mc ∧ zz + ms2 ≤ ms) (kk : ∀ r h2, Q2 r h2 → V G mL_law (d, mc, ms, cc + mc2, zz + ms2) 1310 L (r.toList ++ S) h2 Q) : V G mL_law (d, mc, ms, cc, zz) 1307 L (a0 :: .ref (k + 2) :: S) h Q := V_callV (ci := 8) (T := TX8) (N := 33) hM dL_law_1307 ⟨km_L_174, ki_X8_count, ks_X8_count⟩ cw_X8_count rfl hc (by decide) hdd rfl rfl hrm hf kk
theorem cL_law_1316 {G : gx} {d mc ms cc zz d2 mc2 ms2 : Nat} {L : List (Option Value)} {S : List Value} {h : ah} {Q Q2 : Option Value → ah → Prop} {k : Nat} {fs : List Value} (hM : Ct G mX7_digest d2 mc2 ms2 (.ref (k + 2) :: []) h Q2) (hc : h (k + 2) = (7, .inl fs)) (hdd : d2 < d ∧ d ≤ 9) (hrm : (S.map fun v => v.category).sum ≤ 8) (hf : cc + mc2 ≤ mc ∧ zz + ms2 ≤ ms) (kk : ∀ r h2, Q2 r h2 → V G mL_law (d, mc, ms, cc + mc2, zz + ms2) 1319 L (r.toList ++ S) h2 Q) : V G mL_law (d, mc, ms, cc, zz) 1316 L (.ref (k + 2) :: S) h Q := V_callV (ci := 7) (T := TX7) (N := 9) hM dL_law_1316 ⟨km_L_175, ki_X7_digest, ks_X7_digest⟩ cw_X7_digest rfl hc (by decide) hdd rfl rfl hrm hf kk
theorem cL_law_1320 {G : gx} {d mc ms cc zz d2 mc2 ms2 : Nat} {L : List (Option Value)} {S : List Value} {h : ah} {Q Q2 : Option Value → ah → Prop} {k : Nat} {fs : List Value} (hM : Ct G mX8_digest d2 mc2 ms2 (.ref (k + 2) :: []) h Q2) (hc : h (k + 2) = (8, .inl fs)) (hdd : d2 < d ∧ d ≤ 9) (hrm : (S.map fun v => v.category).sum ≤ 8) (hf : cc + mc2 ≤ mc ∧ zz + ms2 ≤ ms) (kk : ∀ r h2, Q2 r h2 → V G mL_law (d, mc, ms, cc + mc2, zz + ms2) 1323 L (r.toList ++ S) h2 Q) : V G mL_law (d, mc, ms, cc, zz) 1320 L (.ref (k + 2) :: S) h Q := V_callV (ci := 8) (T := TX8) (N := 33) hM dL_law_1320 ⟨km_L_179, ki_X8_digest, ks_X8_digest⟩ cw_X8_digest rfl hc (by decide) hdd rfl rfl hrm hf kk
