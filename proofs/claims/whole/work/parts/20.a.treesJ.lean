/-! trees of J -/
theorem tJ13_bitCount_95d88_0 {G : gx} {b : bg} {h : ah} {Q : Option Value → ah → Prop} {y0 : Int64} (q1 : Q (some (.int (((((((((y0 - (((y0).toUInt64 >>> (((1 : Int32) : Int32).toInt64.toUInt64 &&& Int64.toUInt64 63)).toInt64 &&& (6148914691236517205 : Int64))) &&& (3689348814741910323 : Int64)) + ((((y0 - (((y0).toUInt64 >>> (((1 : Int32) : Int32).toInt64.toUInt64 &&& Int64.toUInt64 63)).toInt64 &&& (6148914691236517205 : Int64)))).toUInt64 >>> (((2 : Int32) : Int32).toInt64.toUInt64 &&& Int64.toUInt64 63)).toInt64 &&& (3689348814741910323 : Int64))) + (((((y0 - (((y0).toUInt64 >>> (((1 : Int32) : Int32).toInt64.toUInt64 &&& Int64.toUInt64 63)).toInt64 &&& (6148914691236517205 : Int64))) &&& (3689348814741910323 : Int64)) + ((((y0 - (((y0).toUInt64 >>> (((1 : Int32) : Int32).toInt64.toUInt64 &&& Int64.toUInt64 63)).toInt64 &&& (6148914691236517205 : Int64)))).toUInt64 >>> (((2 : Int32) : Int32).toInt64.toUInt64 &&& Int64.toUInt64 63)).toInt64 &&& (3689348814741910323 : Int64)))).toUInt64 >>> (((4 : Int32) : Int32).toInt64.toUInt64 &&& Int64.toUInt64 63)).toInt64) &&& (1085102592571150095 : Int64)) + (((((((y0 - (((y0).toUInt64 >>> (((1 : Int32) : Int32).toInt64.toUInt64 &&& Int64.toUInt64 63)).toInt64 &&& (6148914691236517205 : Int64))) &&& (3689348814741910323 : Int64)) + ((((y0 - (((y0).toUInt64 >>> (((1 : Int32) : Int32).toInt64.toUInt64 &&& Int64.toUInt64 63)).toInt64 &&& (6148914691236517205 : Int64)))).toUInt64 >>> (((2 : Int32) : Int32).toInt64.toUInt64 &&& Int64.toUInt64 63)).toInt64 &&& (3689348814741910323 : Int64))) + (((((y0 - (((y0).toUInt64 >>> (((1 : Int32) : Int32).toInt64.toUInt64 &&& Int64.toUInt64 63)).toInt64 &&& (6148914691236517205 : Int64))) &&& (3689348814741910323 : Int64)) + ((((y0 - (((y0).toUInt64 >>> (((1 : Int32) : Int32).toInt64.toUInt64 &&& Int64.toUInt64 63)).toInt64 &&& (6148914691236517205 : Int64)))).toUInt64 >>> (((2 : Int32) : Int32).toInt64.toUInt64 &&& Int64.toUInt64 63)).toInt64 &&& (3689348814741910323 : Int64)))).toUInt64 >>> (((4 : Int32) : Int32).toInt64.toUInt64 &&& Int64.toUInt64 63)).toInt64) &&& (1085102592571150095 : Int64))).toUInt64 >>> (((8 : Int32) : Int32).toInt64.toUInt64 &&& Int64.toUInt64 63)).toInt64) + ((((((((y0 - (((y0).toUInt64 >>> (((1 : Int32) : Int32).toInt64.toUInt64 &&& Int64.toUInt64 63)).toInt64 &&& (6148914691236517205 : Int64))) &&& (3689348814741910323 : Int64)) + ((((y0 - (((y0).toUInt64 >>> (((1 : Int32) : Int32).toInt64.toUInt64 &&& Int64.toUInt64 63)).toInt64 &&& (6148914691236517205 : Int64)))).toUInt64 >>> (((2 : Int32) : Int32).toInt64.toUInt64 &&& Int64.toUInt64 63)).toInt64 &&& (3689348814741910323 : Int64))) + (((((y0 - (((y0).toUInt64 >>> (((1 : Int32) : Int32).toInt64.toUInt64 &&& Int64.toUInt64 63)).toInt64 &&& (6148914691236517205 : Int64))) &&& (3689348814741910323 : Int64)) + ((((y0 - (((y0).toUInt64 >>> (((1 : Int32) : Int32).toInt64.toUInt64 &&& Int64.toUInt64 63)).toInt64 &&& (6148914691236517205 : Int64)))).toUInt64 >>> (((2 : Int32) : Int32).toInt64.toUInt64 &&& Int64.toUInt64 63)).toInt64 &&& (3689348814741910323 : Int64)))).toUInt64 >>> (((4 : Int32) : Int32).toInt64.toUInt64 &&& Int64.toUInt64 63)).toInt64) &&& (1085102592571150095 : Int64)) + (((((((y0 - (((y0).toUInt64 >>> (((1 : Int32) : Int32).toInt64.toUInt64 &&& Int64.toUInt64 63)).toInt64 &&& (6148914691236517205 : Int64))) &&& (3689348814741910323 : Int64)) + ((((y0 - (((y0).toUInt64 >>> (((1 : Int32) : Int32).toInt64.toUInt64 &&& Int64.toUInt64 63)).toInt64 &&& (6148914691236517205 : Int64)))).toUInt64 >>> (((2 : Int32) : Int32).toInt64.toUInt64 &&& Int64.toUInt64 63)).toInt64 &&& (3689348814741910323 : Int64))) + (((((y0 - (((y0).toUInt64 >>> (((1 : Int32) : Int32).toInt64.toUInt64 &&& Int64.toUInt64 63)).toInt64 &&& (6148914691236517205 : Int64))) &&& (3689348814741910323 : Int64)) + ((((y0 - (((y0).toUInt64 >>> (((1 : Int32) : Int32).toInt64.toUInt64 &&& Int64.toUInt64 63)).toInt64 &&& (6148914691236517205 : Int64)))).toUInt64 >>> (((2 : Int32) : Int32).toInt64.toUInt64 &&& Int64.toUInt64 63)).toInt64 &&& (3689348814741910323 : Int64)))).toUInt64 >>> (((4 : Int32) : Int32).toInt64.toUInt64 &&& Int64.toUInt64 63)).toInt64) &&& (1085102592571150095 : Int64))).toUInt64 >>> (((8 : Int32) : Int32).toInt64.toUInt64 &&& Int64.toUInt64 63)).toInt64)).toUInt64 >>> (((16 : Int32) : Int32).toInt64.toUInt64 &&& Int64.toUInt64 63)).toInt64) + (((((((((y0 - (((y0).toUInt64 >>> (((1 : Int32) : Int32).toInt64.toUInt64 &&& Int64.toUInt64 63)).toInt64 &&& (6148914691236517205 : Int64))) &&& (3689348814741910323 : Int64)) + ((((y0 - (((y0).toUInt64 >>> (((1 : Int32) : Int32).toInt64.toUInt64 &&& Int64.toUInt64 63)).toInt64 &&& (6148914691236517205 : Int64)))).toUInt64 >>> (((2 : Int32) : Int32).toInt64.toUInt64 &&& Int64.toUInt64 63)).toInt64 &&& (3689348814741910323 : Int64))) + (((((y0 - (((y0).toUInt64 >>> (((1 : Int32) : Int32).toInt64.toUInt64 &&& Int64.toUInt64 63)).toInt64 &&& (6148914691236517205 : Int64))) &&& (3689348814741910323 : Int64)) + ((((y0 - (((y0).toUInt64 >>> (((1 : Int32) : Int32).toInt64.toUInt64 &&& Int64.toUInt64 63)).toInt64 &&& (6148914691236517205 : Int64)))).toUInt64 >>> (((2 : Int32) : Int32).toInt64.toUInt64 &&& Int64.toUInt64 63)).toInt64 &&& (3689348814741910323 : Int64)))).toUInt64 >>> (((4 : Int32) : Int32).toInt64.toUInt64 &&& Int64.toUInt64 63)).toInt64) &&& (1085102592571150095 : Int64)) + (((((((y0 - (((y0).toUInt64 >>> (((1 : Int32) : Int32).toInt64.toUInt64 &&& Int64.toUInt64 63)).toInt64 &&& (6148914691236517205 : Int64))) &&& (3689348814741910323 : Int64)) + ((((y0 - (((y0).toUInt64 >>> (((1 : Int32) : Int32).toInt64.toUInt64 &&& Int64.toUInt64 63)).toInt64 &&& (6148914691236517205 : Int64)))).toUInt64 >>> (((2 : Int32) : Int32).toInt64.toUInt64 &&& Int64.toUInt64 63)).toInt64 &&& (3689348814741910323 : Int64))) + (((((y0 - (((y0).toUInt64 >>> (((1 : Int32) : Int32).toInt64.toUInt64 &&& Int64.toUInt64 63)).toInt64 &&& (6148914691236517205 : Int64))) &&& (3689348814741910323 : Int64)) + ((((y0 - (((y0).toUInt64 >>> (((1 : Int32) : Int32).toInt64.toUInt64 &&& Int64.toUInt64 63)).toInt64 &&& (6148914691236517205 : Int64)))).toUInt64 >>> (((2 : Int32) : Int32).toInt64.toUInt64 &&& Int64.toUInt64 63)).toInt64 &&& (3689348814741910323 : Int64)))).toUInt64 >>> (((4 : Int32) : Int32).toInt64.toUInt64 &&& Int64.toUInt64 63)).toInt64) &&& (1085102592571150095 : Int64))).toUInt64 >>> (((8 : Int32) : Int32).toInt64.toUInt64 &&& Int64.toUInt64 63)).toInt64) + ((((((((y0 - (((y0).toUInt64 >>> (((1 : Int32) : Int32).toInt64.toUInt64 &&& Int64.toUInt64 63)).toInt64 &&& (6148914691236517205 : Int64))) &&& (3689348814741910323 : Int64)) + ((((y0 - (((y0).toUInt64 >>> (((1 : Int32) : Int32).toInt64.toUInt64 &&& Int64.toUInt64 63)).toInt64 &&& (6148914691236517205 : Int64)))).toUInt64 >>> (((2 : Int32) : Int32).toInt64.toUInt64 &&& Int64.toUInt64 63)).toInt64 &&& (3689348814741910323 : Int64))) + (((((y0 - (((y0).toUInt64 >>> (((1 : Int32) : Int32).toInt64.toUInt64 &&& Int64.toUInt64 63)).toInt64 &&& (6148914691236517205 : Int64))) &&& (3689348814741910323 : Int64)) + ((((y0 - (((y0).toUInt64 >>> (((1 : Int32) : Int32).toInt64.toUInt64 &&& Int64.toUInt64 63)).toInt64 &&& (6148914691236517205 : Int64)))).toUInt64 >>> (((2 : Int32) : Int32).toInt64.toUInt64 &&& Int64.toUInt64 63)).toInt64 &&& (3689348814741910323 : Int64)))).toUInt64 >>> (((4 : Int32) : Int32).toInt64.toUInt64 &&& Int64.toUInt64 63)).toInt64) &&& (1085102592571150095 : Int64)) + (((((((y0 - (((y0).toUInt64 >>> (((1 : Int32) : Int32).toInt64.toUInt64 &&& Int64.toUInt64 63)).toInt64 &&& (6148914691236517205 : Int64))) &&& (3689348814741910323 : Int64)) + ((((y0 - (((y0).toUInt64 >>> (((1 : Int32) : Int32).toInt64.toUInt64 &&& Int64.toUInt64 63)).toInt64 &&& (6148914691236517205 : Int64)))).toUInt64 >>> (((2 : Int32) : Int32).toInt64.toUInt64 &&& Int64.toUInt64 63)).toInt64 &&& (3689348814741910323 : Int64))) + (((((y0 - (((y0).toUInt64 >>> (((1 : Int32) : Int32).toInt64.toUInt64 &&& Int64.toUInt64 63)).toInt64 &&& (6148914691236517205 : Int64))) &&& (3689348814741910323 : Int64)) + ((((y0 - (((y0).toUInt64 >>> (((1 : Int32) : Int32).toInt64.toUInt64 &&& Int64.toUInt64 63)).toInt64 &&& (6148914691236517205 : Int64)))).toUInt64 >>> (((2 : Int32) : Int32).toInt64.toUInt64 &&& Int64.toUInt64 63)).toInt64 &&& (3689348814741910323 : Int64)))).toUInt64 >>> (((4 : Int32) : Int32).toInt64.toUInt64 &&& Int64.toUInt64 63)).toInt64) &&& (1085102592571150095 : Int64))).toUInt64 >>> (((8 : Int32) : Int32).toInt64.toUInt64 &&& Int64.toUInt64 63)).toInt64)).toUInt64 >>> (((16 : Int32) : Int32).toInt64.toUInt64 &&& Int64.toUInt64 63)).toInt64)).toUInt64 >>> (((32 : Int32) : Int32).toInt64.toUInt64 &&& Int64.toUInt64 63)).toInt64).toInt32 &&& (127 : Int32)))) h) : V G mJ13_bitCount_95d88 b 0 [some (.long y0)] [] h Q := by
  refine V_lload_n dJ13_bitCount_95d88_0 rfl rfl ?_
  refine V_lload_n dJ13_bitCount_95d88_1 rfl rfl ?_
  refine V_iconst dJ13_bitCount_95d88_2 ic_1 ?_
  refine V_lushr dJ13_bitCount_95d88_3 ?_
  refine V_ldc2 dJ13_bitCount_95d88_4 kk_J13_314 ?_
  refine V_land dJ13_bitCount_95d88_7 ?_
  refine V_lsub dJ13_bitCount_95d88_8 ?_
  refine V_lstore_n dJ13_bitCount_95d88_9 rfl (Nat.le_of_ble_eq_true rfl) ?_
  refine V_lload_n dJ13_bitCount_95d88_10 rfl rfl ?_
  refine V_ldc2 dJ13_bitCount_95d88_11 kk_J13_316 ?_
  refine V_land dJ13_bitCount_95d88_14 ?_
  refine V_lload_n dJ13_bitCount_95d88_15 rfl rfl ?_
  refine V_iconst dJ13_bitCount_95d88_16 ic_2 ?_
  refine V_lushr dJ13_bitCount_95d88_17 ?_
  refine V_ldc2 dJ13_bitCount_95d88_18 kk_J13_316 ?_
  refine V_land dJ13_bitCount_95d88_21 ?_
  refine V_ladd dJ13_bitCount_95d88_22 ?_
  refine V_lstore_n dJ13_bitCount_95d88_23 rfl (Nat.le_of_ble_eq_true rfl) ?_
  refine V_lload_n dJ13_bitCount_95d88_24 rfl rfl ?_
  refine V_lload_n dJ13_bitCount_95d88_25 rfl rfl ?_
  refine V_iconst dJ13_bitCount_95d88_26 ic_4 ?_
  refine V_lushr dJ13_bitCount_95d88_27 ?_
  refine V_ladd dJ13_bitCount_95d88_28 ?_
  refine V_ldc2 dJ13_bitCount_95d88_29 kk_J13_318 ?_
  refine V_land dJ13_bitCount_95d88_32 ?_
  refine V_lstore_n dJ13_bitCount_95d88_33 rfl (Nat.le_of_ble_eq_true rfl) ?_
  refine V_lload_n dJ13_bitCount_95d88_34 rfl rfl ?_
  refine V_lload_n dJ13_bitCount_95d88_35 rfl rfl ?_
  refine V_bipush dJ13_bitCount_95d88_36 bp_8 ?_
  refine V_lushr dJ13_bitCount_95d88_38 ?_
  refine V_ladd dJ13_bitCount_95d88_39 ?_
  refine V_lstore_n dJ13_bitCount_95d88_40 rfl (Nat.le_of_ble_eq_true rfl) ?_
  refine V_lload_n dJ13_bitCount_95d88_41 rfl rfl ?_
  refine V_lload_n dJ13_bitCount_95d88_42 rfl rfl ?_
  refine V_bipush dJ13_bitCount_95d88_43 bp_16 ?_
  refine V_lushr dJ13_bitCount_95d88_45 ?_
  refine V_ladd dJ13_bitCount_95d88_46 ?_
  refine V_lstore_n dJ13_bitCount_95d88_47 rfl (Nat.le_of_ble_eq_true rfl) ?_
  refine V_lload_n dJ13_bitCount_95d88_48 rfl rfl ?_
  refine V_lload_n dJ13_bitCount_95d88_49 rfl rfl ?_
  refine V_bipush dJ13_bitCount_95d88_50 bp_32 ?_
  refine V_lushr dJ13_bitCount_95d88_52 ?_
  refine V_ladd dJ13_bitCount_95d88_53 ?_
  refine V_lstore_n dJ13_bitCount_95d88_54 rfl (Nat.le_of_ble_eq_true rfl) ?_
  refine V_lload_n dJ13_bitCount_95d88_55 rfl rfl ?_
  refine V_l2i dJ13_bitCount_95d88_56 ?_
  refine V_bipush dJ13_bitCount_95d88_57 bp_127 ?_
  refine V_iand dJ13_bitCount_95d88_59 ?_
  exact V_iret dJ13_bitCount_95d88_60 rfl (q1)
theorem tJ9_min_7cf53_0 {G : gx} {b : bg} {h : ah} {Q : Option Value → ah → Prop} {x0 : Int32} {x1 : Int32} (q1 : (x1 < x0) → Q (some (.int x1)) h) (q2 : (¬ x1 < x0) → Q (some (.int x0)) h) : V G mJ9_min_7cf53 b 0 [some (.int x0), some (.int x1)] [] h Q := by
  refine V_iload_n dJ9_min_7cf53_0 rfl rfl ?_
  refine V_iload_n dJ9_min_7cf53_1 rfl rfl ?_
  refine V_icmp_gt (t := 9) dJ9_min_7cf53_2 (by decide) (fun z1 => ?_) (fun z1 => ?_)
  ·
    refine V_iload_n dJ9_min_7cf53_9 rfl rfl ?_
    exact V_iret dJ9_min_7cf53_10 rfl (q1 z1)
  ·
    refine V_iload_n dJ9_min_7cf53_5 rfl rfl ?_
    refine V_goto (t := 10) dJ9_min_7cf53_6 (by decide) ?_
    exact V_iret dJ9_min_7cf53_10 rfl (q2 z1)
theorem tJ7_rangeCheck_23922_0 {G : gx} {b : bg} {h : ah} {Q : Option Value → ah → Prop} {x0 : Int32} {x1 : Int32} {x2 : Int32} (q1 : (x1 ≤ x2) → ((0 : Int32) ≤ x1) → (x2 ≤ x0) → Q none h) (q2 : (x1 ≤ x2) → ((0 : Int32) ≤ x1) → (¬ x2 ≤ x0) → V G mJ7_rangeCheck_23922 b 64 [some (.int x0), some (.int x1), some (.int x2)] [] h Q) (q3 : (x1 ≤ x2) → (¬ (0 : Int32) ≤ x1) → V G mJ7_rangeCheck_23922 b 50 [some (.int x0), some (.int x1), some (.int x2)] [] h Q) (q4 : (¬ x1 ≤ x2) → V G mJ7_rangeCheck_23922 b 5 [some (.int x0), some (.int x1), some (.int x2)] [] h Q) : V G mJ7_rangeCheck_23922 b 0 [some (.int x0), some (.int x1), some (.int x2)] [] h Q := by
  refine V_iload_n dJ7_rangeCheck_23922_0 rfl rfl ?_
  refine V_iload_n dJ7_rangeCheck_23922_1 rfl rfl ?_
  refine V_icmp_le (t := 46) dJ7_rangeCheck_23922_2 (by decide) (fun z1 => ?_) (fun z1 => ?_)
  ·
    refine V_iload_n dJ7_rangeCheck_23922_46 rfl rfl ?_
    refine V_if_ge (t := 59) dJ7_rangeCheck_23922_47 (by decide) (fun z2 => ?_) (fun z2 => ?_)
    ·
      refine V_iload_n dJ7_rangeCheck_23922_59 rfl rfl ?_
      refine V_iload_n dJ7_rangeCheck_23922_60 rfl rfl ?_
      refine V_icmp_le (t := 73) dJ7_rangeCheck_23922_61 (by decide) (fun z3 => ?_) (fun z3 => ?_)
      ·
        exact V_vret dJ7_rangeCheck_23922_73 rfl (q1 z1 z2 z3)
      ·
        exact V_sub (by exact (And.intro rfl (And.intro rfl (And.intro rfl True.intro)))) (q2 z1 z2 z3)
    ·
      exact V_sub (by exact (And.intro rfl (And.intro rfl (And.intro rfl True.intro)))) (q3 z1 z2)
  ·
    exact V_sub (by exact (And.intro rfl (And.intro rfl (And.intro rfl True.intro)))) (q4 z1)
theorem tJ7_fill_d0a16_0 {G : gx} {b : bg} {h : ah} {Q : Option Value → ah → Prop} {p0 : Nat} {y1 : Int64} {fp0 : Nat → Int64} {np0 : Nat} (gp02 : h (p0 + 2) = (3, .inr (np0, .inr (.inl fp0)))) (q1 : V G mJ7_fill_d0a16 b 6 [some (.ref (p0 + 2)), some (.long y1), none, some (.int (0 : Int32)), some (.int (nI np0))] [] h Q) : V G mJ7_fill_d0a16 b 0 [some (.ref (p0 + 2)), some (.long y1)] [] h Q := by
  refine V_iconst dJ7_fill_d0a16_0 ic_0 ?_
  refine V_istore_n dJ7_fill_d0a16_1 rfl (Nat.le_of_ble_eq_true rfl) ?_
  refine V_aload_n dJ7_fill_d0a16_2 rfl rfl ?_
  refine V_alen dJ7_fill_d0a16_3 gp02 (by decide) ?_
  refine V_istore dJ7_fill_d0a16_4 (Nat.le_of_ble_eq_true rfl) ?_
  exact V_sub (by exact (And.intro rfl (And.intro rfl (And.intro rfl (And.intro rfl True.intro))))) (q1)
theorem tJ7_fill_d0a16_6 {G : gx} {b : bg} {h : ah} {Q : Option Value → ah → Prop} {p0 : Nat} {y1 : Int64} {x3 : Int32} {x4 : Int32} {fp0 : Nat → Int64} {np0 : Nat} (gp02 : h (p0 + 2) = (3, .inr (np0, .inr (.inl fp0)))) (q1 : (x4 ≤ x3) → Q none h) (q2 : (¬ x4 ≤ x3) → vp_in x3 np0) (q3 : (¬ x4 ≤ x3) → V G mJ7_fill_d0a16 b 6 [some (.ref (p0 + 2)), some (.long y1), none, some (.int (x3 + (1 : Int32))), some (.int x4)] [] (va_up h (p0 + 2) (3, .inr (np0, .inr (.inl (vp_updL fp0 x3.toNatClampNeg y1))))) Q) : V G mJ7_fill_d0a16 b 6 [some (.ref (p0 + 2)), some (.long y1), none, some (.int x3), some (.int x4)] [] h Q := by
  refine V_iload_n dJ7_fill_d0a16_6 rfl rfl ?_
  refine V_iload dJ7_fill_d0a16_7 rfl ?_
  refine V_icmp_ge (t := 22) dJ7_fill_d0a16_9 (by decide) (fun z1 => ?_) (fun z1 => ?_)
  ·
    exact V_vret dJ7_fill_d0a16_22 rfl (q1 z1)
  ·
    refine V_aload_n dJ7_fill_d0a16_12 rfl rfl ?_
    refine V_iload_n dJ7_fill_d0a16_13 rfl rfl ?_
    refine V_lload_n dJ7_fill_d0a16_14 rfl rfl ?_
    refine V_last dJ7_fill_d0a16_15 gp02 (q2 z1) ?_
    refine V_inc dJ7_fill_d0a16_16 ic_1 rfl (Nat.le_of_ble_eq_true rfl) ?_
    refine V_goto (t := 6) dJ7_fill_d0a16_19 (by decide) ?_
    exact V_sub (by exact (And.intro rfl (And.intro rfl (And.intro rfl (And.intro rfl True.intro))))) (q3 z1)
theorem tJ7_fill_53178_0 {G : gx} {b : bg} {h : ah} {Q : Option Value → ah → Prop} {p0 : Nat} {x1 : Int32} {fp0 : Nat → Int32} {np0 : Nat} (gp02 : h (p0 + 2) = (0, .inr (np0, .inl fp0))) (q1 : V G mJ7_fill_53178 b 5 [some (.ref (p0 + 2)), some (.int x1), some (.int (0 : Int32)), some (.int (nI np0))] [] h Q) : V G mJ7_fill_53178 b 0 [some (.ref (p0 + 2)), some (.int x1)] [] h Q := by
  refine V_iconst dJ7_fill_53178_0 ic_0 ?_
  refine V_istore_n dJ7_fill_53178_1 rfl (Nat.le_of_ble_eq_true rfl) ?_
  refine V_aload_n dJ7_fill_53178_2 rfl rfl ?_
  refine V_alen dJ7_fill_53178_3 gp02 (by decide) ?_
  refine V_istore_n dJ7_fill_53178_4 rfl (Nat.le_of_ble_eq_true rfl) ?_
  exact V_sub (by exact (And.intro rfl (And.intro rfl (And.intro rfl (And.intro rfl True.intro))))) (q1)
theorem tJ7_fill_53178_5 {G : gx} {b : bg} {h : ah} {Q : Option Value → ah → Prop} {p0 : Nat} {x1 : Int32} {x2 : Int32} {x3 : Int32} {fp0 : Nat → Int32} {np0 : Nat} (gp02 : h (p0 + 2) = (0, .inr (np0, .inl fp0))) (q1 : (x3 ≤ x2) → Q none h) (q2 : (¬ x3 ≤ x2) → vp_in x2 np0) (q3 : (¬ x3 ≤ x2) → V G mJ7_fill_53178 b 5 [some (.ref (p0 + 2)), some (.int x1), some (.int (x2 + (1 : Int32))), some (.int x3)] [] (va_up h (p0 + 2) (0, .inr (np0, .inl (upd fp0 x2.toNatClampNeg x1)))) Q) : V G mJ7_fill_53178 b 5 [some (.ref (p0 + 2)), some (.int x1), some (.int x2), some (.int x3)] [] h Q := by
  refine V_iload_n dJ7_fill_53178_5 rfl rfl ?_
  refine V_iload_n dJ7_fill_53178_6 rfl rfl ?_
  refine V_icmp_ge (t := 20) dJ7_fill_53178_7 (by decide) (fun z1 => ?_) (fun z1 => ?_)
  ·
    exact V_vret dJ7_fill_53178_20 rfl (q1 z1)
  ·
    refine V_aload_n dJ7_fill_53178_10 rfl rfl ?_
    refine V_iload_n dJ7_fill_53178_11 rfl rfl ?_
    refine V_iload_n dJ7_fill_53178_12 rfl rfl ?_
    refine V_iast dJ7_fill_53178_13 gp02 (q2 z1) ?_
    refine V_inc dJ7_fill_53178_14 ic_1 rfl (Nat.le_of_ble_eq_true rfl) ?_
    refine V_goto (t := 5) dJ7_fill_53178_17 (by decide) ?_
    exact V_sub (by exact (And.intro rfl (And.intro rfl (And.intro rfl (And.intro rfl True.intro))))) (q3 z1)
theorem tJ7_fill_fda19_0 {G : gx} {b : bg} {h : ah} {Q : Option Value → ah → Prop} {p0 : Nat} {x1 : Int32} {x2 : Int32} {x3 : Int32} {fp0 : Nat → Int32} {np0 : Nat} (gp02 : h (p0 + 2) = (0, .inr (np0, .inl fp0))) (q1 : V G mJ7_fill_fda19 b 4 [some (.ref (p0 + 2)), some (.int x1), some (.int x2), some (.int x3)] [.int x2, .int x1, .int (nI np0)] h Q) : V G mJ7_fill_fda19 b 0 [some (.ref (p0 + 2)), some (.int x1), some (.int x2), some (.int x3)] [] h Q := by
  refine V_aload_n dJ7_fill_fda19_0 rfl rfl ?_
  refine V_alen dJ7_fill_fda19_1 gp02 (by decide) ?_
  refine V_iload_n dJ7_fill_fda19_2 rfl rfl ?_
  refine V_iload_n dJ7_fill_fda19_3 rfl rfl ?_
  exact V_sub (by exact (And.intro rfl (And.intro rfl (And.intro rfl (And.intro rfl True.intro))))) (q1)
theorem tJ7_fill_fda19_10 {G : gx} {b : bg} {h : ah} {Q : Option Value → ah → Prop} {p0 : Nat} {x1 : Int32} {x2 : Int32} {x3 : Int32} {x4 : Int32} {fp0 : Nat → Int32} {np0 : Nat} (gp02 : h (p0 + 2) = (0, .inr (np0, .inl fp0))) (q1 : (x2 ≤ x4) → Q none h) (q2 : (¬ x2 ≤ x4) → vp_in x4 np0) (q3 : (¬ x2 ≤ x4) → V G mJ7_fill_fda19 b 10 [some (.ref (p0 + 2)), some (.int x1), some (.int x2), some (.int x3), some (.int (x4 + (1 : Int32)))] [] (va_up h (p0 + 2) (0, .inr (np0, .inl (upd fp0 x4.toNatClampNeg x3)))) Q) : V G mJ7_fill_fda19 b 10 [some (.ref (p0 + 2)), some (.int x1), some (.int x2), some (.int x3), some (.int x4)] [] h Q := by
  refine V_iload dJ7_fill_fda19_10 rfl ?_
  refine V_iload_n dJ7_fill_fda19_12 rfl rfl ?_
  refine V_icmp_ge (t := 27) dJ7_fill_fda19_13 (by decide) (fun z1 => ?_) (fun z1 => ?_)
  ·
    exact V_vret dJ7_fill_fda19_27 rfl (q1 z1)
  ·
    refine V_aload_n dJ7_fill_fda19_16 rfl rfl ?_
    refine V_iload dJ7_fill_fda19_17 rfl ?_
    refine V_iload_n dJ7_fill_fda19_19 rfl rfl ?_
    refine V_iast dJ7_fill_fda19_20 gp02 (q2 z1) ?_
    refine V_inc dJ7_fill_fda19_21 ic_1 rfl (Nat.le_of_ble_eq_true rfl) ?_
    refine V_goto (t := 10) dJ7_fill_fda19_24 (by decide) ?_
    exact V_sub (by exact (And.intro rfl (And.intro rfl (And.intro rfl (And.intro rfl (And.intro rfl True.intro)))))) (q3 z1)
theorem tJ7_fill_fda19_7 {G : gx} {b : bg} {h : ah} {Q : Option Value → ah → Prop} {p0 : Nat} {x1 : Int32} {x2 : Int32} {x3 : Int32} (q1 : V G mJ7_fill_fda19 b 10 [some (.ref (p0 + 2)), some (.int x1), some (.int x2), some (.int x3), some (.int x1)] [] h Q) : V G mJ7_fill_fda19 b 7 [some (.ref (p0 + 2)), some (.int x1), some (.int x2), some (.int x3)] [] h Q := by
  refine V_iload_n dJ7_fill_fda19_7 rfl rfl ?_
  refine V_istore dJ7_fill_fda19_8 (Nat.le_of_ble_eq_true rfl) ?_
  exact V_sub (by exact (And.intro rfl (And.intro rfl (And.intro rfl (And.intro rfl (And.intro rfl True.intro)))))) (q1)
theorem cJ7_fill_fda19_4 {G : gx} {d mc ms cc zz d2 mc2 ms2 : Nat} {L : List (Option Value)} {S : List Value} {h : ah} {Q Q2 : Option Value → ah → Prop} {a0 a1 a2 : Value} (hM : Ct G mJ7_rangeCheck_23922 d2 mc2 ms2 [a0, a1, a2] h Q2) (hdd : d2 < d ∧ d ≤ 9) (hrm : (S.map fun v => v.category).sum ≤ 8) (hf : cc + mc2 ≤ mc ∧ zz + ms2 ≤ ms) (kk : ∀ r h2, Q2 r h2 → V G mJ7_fill_fda19 (d, mc, ms, cc + mc2, zz + ms2) 7 L (r.toList ++ S) h2 Q) : V G mJ7_fill_fda19 (d, mc, ms, cc, zz) 4 L (a2 :: a1 :: a0 :: S) h Q := V_callS hM dJ7_fill_fda19_4 ⟨km_J7_13, kt_J7_rangeCheck_23922⟩ cw_J7_rangeCheck_23922 hdd rfl rfl hrm hf kk
theorem tJ7_fill_eb02e_0 {G : gx} {b : bg} {h : ah} {Q : Option Value → ah → Prop} {p0 : Nat} {x1 : Int32} {x2 : Int32} {x3 : Int32} {fp0 : Nat → Int32} {np0 : Nat} (gp02 : h (p0 + 2) = (1, .inr (np0, .inl fp0))) (q1 : V G mJ7_fill_eb02e b 4 [some (.ref (p0 + 2)), some (.int x1), some (.int x2), some (.int x3)] [.int x2, .int x1, .int (nI np0)] h Q) : V G mJ7_fill_eb02e b 0 [some (.ref (p0 + 2)), some (.int x1), some (.int x2), some (.int x3)] [] h Q := by
  refine V_aload_n dJ7_fill_eb02e_0 rfl rfl ?_
  refine V_alen dJ7_fill_eb02e_1 gp02 (by decide) ?_
  refine V_iload_n dJ7_fill_eb02e_2 rfl rfl ?_
  refine V_iload_n dJ7_fill_eb02e_3 rfl rfl ?_
  exact V_sub (by exact (And.intro rfl (And.intro rfl (And.intro rfl (And.intro rfl True.intro))))) (q1)
theorem tJ7_fill_eb02e_10 {G : gx} {b : bg} {h : ah} {Q : Option Value → ah → Prop} {p0 : Nat} {x1 : Int32} {x2 : Int32} {x3 : Int32} {x4 : Int32} {fp0 : Nat → Int32} {np0 : Nat} (gp02 : h (p0 + 2) = (1, .inr (np0, .inl fp0))) (q1 : (x2 ≤ x4) → Q none h) (q2 : (¬ x2 ≤ x4) → vp_in x4 np0) (q3 : (¬ x2 ≤ x4) → V G mJ7_fill_eb02e b 10 [some (.ref (p0 + 2)), some (.int x1), some (.int x2), some (.int x3), some (.int (x4 + (1 : Int32)))] [] (va_up h (p0 + 2) (1, .inr (np0, .inl (upd fp0 x4.toNatClampNeg (vp_nar .byte x3))))) Q) : V G mJ7_fill_eb02e b 10 [some (.ref (p0 + 2)), some (.int x1), some (.int x2), some (.int x3), some (.int x4)] [] h Q := by
  refine V_iload dJ7_fill_eb02e_10 rfl ?_
  refine V_iload_n dJ7_fill_eb02e_12 rfl rfl ?_
  refine V_icmp_ge (t := 27) dJ7_fill_eb02e_13 (by decide) (fun z1 => ?_) (fun z1 => ?_)
  ·
    exact V_vret dJ7_fill_eb02e_27 rfl (q1 z1)
  ·
    refine V_aload_n dJ7_fill_eb02e_16 rfl rfl ?_
    refine V_iload dJ7_fill_eb02e_17 rfl ?_
    refine V_iload_n dJ7_fill_eb02e_19 rfl rfl ?_
    refine V_bast dJ7_fill_eb02e_20 gp02 (q2 z1) ?_
    refine V_inc dJ7_fill_eb02e_21 ic_1 rfl (Nat.le_of_ble_eq_true rfl) ?_
    refine V_goto (t := 10) dJ7_fill_eb02e_24 (by decide) ?_
    exact V_sub (by exact (And.intro rfl (And.intro rfl (And.intro rfl (And.intro rfl (And.intro rfl True.intro)))))) (q3 z1)
theorem tJ7_fill_eb02e_7 {G : gx} {b : bg} {h : ah} {Q : Option Value → ah → Prop} {p0 : Nat} {x1 : Int32} {x2 : Int32} {x3 : Int32} (q1 : V G mJ7_fill_eb02e b 10 [some (.ref (p0 + 2)), some (.int x1), some (.int x2), some (.int x3), some (.int x1)] [] h Q) : V G mJ7_fill_eb02e b 7 [some (.ref (p0 + 2)), some (.int x1), some (.int x2), some (.int x3)] [] h Q := by
  refine V_iload_n dJ7_fill_eb02e_7 rfl rfl ?_
  refine V_istore dJ7_fill_eb02e_8 (Nat.le_of_ble_eq_true rfl) ?_
  exact V_sub (by exact (And.intro rfl (And.intro rfl (And.intro rfl (And.intro rfl (And.intro rfl True.intro)))))) (q1)
theorem cJ7_fill_eb02e_4 {G : gx} {d mc ms cc zz d2 mc2 ms2 : Nat} {L : List (Option Value)} {S : List Value} {h : ah} {Q Q2 : Option Value → ah → Prop} {a0 a1 a2 : Value} (hM : Ct G mJ7_rangeCheck_23922 d2 mc2 ms2 [a0, a1, a2] h Q2) (hdd : d2 < d ∧ d ≤ 9) (hrm : (S.map fun v => v.category).sum ≤ 8) (hf : cc + mc2 ≤ mc ∧ zz + ms2 ≤ ms) (kk : ∀ r h2, Q2 r h2 → V G mJ7_fill_eb02e (d, mc, ms, cc + mc2, zz + ms2) 7 L (r.toList ++ S) h2 Q) : V G mJ7_fill_eb02e (d, mc, ms, cc, zz) 4 L (a2 :: a1 :: a0 :: S) h Q := V_callS hM dJ7_fill_eb02e_4 ⟨km_J7_13, kt_J7_rangeCheck_23922⟩ cw_J7_rangeCheck_23922 hdd rfl rfl hrm hf kk
