/-! trees of X0 -/
theorem tX0_divide_0 {G : gx} {b : bg} {h : ah} {Q : Option Value → ah → Prop} {p1 : Nat} {x2 : Int32} (q1 : V G mX0_divide b 8 [some (.ref 36), some (.ref (p1 + 2)), some (.int x2), some (.int (0 : Int32)), some (.int (0 : Int32)), some (.int (0 : Int32))] [] h Q) : V G mX0_divide b 0 [some (.ref 36), some (.ref (p1 + 2)), some (.int x2)] [] h Q := by
  refine V_iconst dX0_divide_0 ic_0 ?_
  refine V_istore_n dX0_divide_1 rfl (Nat.le_of_ble_eq_true rfl) ?_
  refine V_iconst dX0_divide_2 ic_0 ?_
  refine V_istore dX0_divide_3 (Nat.le_of_ble_eq_true rfl) ?_
  refine V_iconst dX0_divide_5 ic_0 ?_
  refine V_istore dX0_divide_6 (Nat.le_of_ble_eq_true rfl) ?_
  exact V_sub (by exact (And.intro rfl (And.intro rfl (And.intro rfl (And.intro rfl (And.intro rfl (And.intro rfl True.intro))))))) (q1)
theorem tX0_divide_8 {G : gx} {b : bg} {h : ah} {Q : Option Value → ah → Prop} {p1 : Nat} {x2 : Int32} {x3 : Int32} {x4 : Int32} {x5 : Int32} {ptold : Int32} (g36 : h 36 = (0, .inl [.ref 37, .int ptold])) (q1 : (x2 ≤ x5) → (x3 ≤ (0 : Int32)) → Q (some (.int x3)) h) (q2 : (x2 ≤ x5) → (¬ x3 ≤ (0 : Int32)) → Q (some (.int x3)) (va_up h 36 (0, .inl [.ref 37, .int x3]))) (q3 : (¬ x2 ≤ x5) → (x2 ≤ x4) → (x3 ≤ (0 : Int32)) → Q (some (.int x3)) h) (q4 : (¬ x2 ≤ x5) → (x2 ≤ x4) → (¬ x3 ≤ (0 : Int32)) → Q (some (.int x3)) (va_up h 36 (0, .inl [.ref 37, .int x3]))) (q5 : (¬ x2 ≤ x5) → (¬ x2 ≤ x4) → V G mX0_divide b 30 [some (.ref 36), some (.ref (p1 + 2)), some (.int x2), some (.int x3), some (.int x4), some (.int x5), some (.int x4), some (.int (x4 + (1 : Int32)))] [] h Q) : V G mX0_divide b 8 [some (.ref 36), some (.ref (p1 + 2)), some (.int x2), some (.int x3), some (.int x4), some (.int x5)] [] h Q := by
  refine V_iload dX0_divide_8 rfl ?_
  refine V_iload_n dX0_divide_10 rfl rfl ?_
  refine V_icmp_ge (t := 121) dX0_divide_11 (by decide) (fun z1 => ?_) (fun z1 => ?_)
  ·
    refine V_iload_n dX0_divide_121 rfl rfl ?_
    refine V_if_le (t := 130) dX0_divide_122 (by decide) (fun z2 => ?_) (fun z2 => ?_)
    ·
      refine V_iload_n dX0_divide_130 rfl rfl ?_
      exact V_iret dX0_divide_131 rfl (q1 z1 z2)
    ·
      refine V_aload_n dX0_divide_125 rfl rfl ?_
      refine V_iload_n dX0_divide_126 rfl rfl ?_
      refine V_put (ci := 0) (j := 1) (C0 := RX0) (T := TX0) (N := 2) (ty := .int) dX0_divide_127 rfl g36 (by decide) (by decide) kf_X0_15 rfl (by decide +kernel) rfl rfl (Nat.le_of_ble_eq_true rfl) ?_
      refine V_iload_n dX0_divide_130 rfl rfl ?_
      exact V_iret dX0_divide_131 rfl (q2 z1 z2)
  ·
    refine V_iload dX0_divide_14 rfl ?_
    refine V_iload_n dX0_divide_16 rfl rfl ?_
    refine V_icmp_ge (t := 121) dX0_divide_17 (by decide) (fun z3 => ?_) (fun z3 => ?_)
    ·
      refine V_iload_n dX0_divide_121 rfl rfl ?_
      refine V_if_le (t := 130) dX0_divide_122 (by decide) (fun z4 => ?_) (fun z4 => ?_)
      ·
        refine V_iload_n dX0_divide_130 rfl rfl ?_
        exact V_iret dX0_divide_131 rfl (q3 z1 z3 z4)
      ·
        refine V_aload_n dX0_divide_125 rfl rfl ?_
        refine V_iload_n dX0_divide_126 rfl rfl ?_
        refine V_put (ci := 0) (j := 1) (C0 := RX0) (T := TX0) (N := 2) (ty := .int) dX0_divide_127 rfl g36 (by decide) (by decide) kf_X0_15 rfl (by decide +kernel) rfl rfl (Nat.le_of_ble_eq_true rfl) ?_
        refine V_iload_n dX0_divide_130 rfl rfl ?_
        exact V_iret dX0_divide_131 rfl (q4 z1 z3 z4)
    ·
      refine V_iload dX0_divide_20 rfl ?_
      refine V_istore dX0_divide_22 (Nat.le_of_ble_eq_true rfl) ?_
      refine V_iload dX0_divide_24 rfl ?_
      refine V_iconst dX0_divide_26 ic_1 ?_
      refine V_iadd dX0_divide_27 ?_
      refine V_istore dX0_divide_28 (Nat.le_of_ble_eq_true rfl) ?_
      exact V_sub (by exact (And.intro rfl (And.intro rfl (And.intro rfl (And.intro rfl (And.intro rfl (And.intro rfl (And.intro rfl (And.intro rfl True.intro))))))))) (q5 z1 z3)
theorem tX0_divide_30 {G : gx} {b : bg} {h : ah} {Q : Option Value → ah → Prop} {p1 : Nat} {x2 : Int32} {x3 : Int32} {x4 : Int32} {x5 : Int32} {x6 : Int32} {x7 : Int32} {fp1 : Nat → Int32} {np1 : Nat} (gp12 : h (p1 + 2) = (0, .inr (np1, .inl fp1))) (q1 : (x2 ≤ x7) → V G mX0_divide b 82 [some (.ref 36), some (.ref (p1 + 2)), some (.int x2), some (.int x3), some (.int x4), some (.int x5), some (.int x6), some (.int x7), some (.int (x7 - x6))] [] h Q) (q2 : (¬ x2 ≤ x7) → vp_in x6 np1) (q3 : (¬ x2 ≤ x7) → vp_in x7 np1) (q4 : (¬ x2 ≤ x7) → ((fp1 x7.toNatClampNeg) < (fp1 x6.toNatClampNeg)) → V G mX0_divide b 82 [some (.ref 36), some (.ref (p1 + 2)), some (.int x2), some (.int x3), some (.int x4), some (.int x5), some (.int x6), some (.int x7), some (.int (x7 - x6))] [] h Q) (q5 : (¬ x2 ≤ x7) → (¬ (fp1 x7.toNatClampNeg) < (fp1 x6.toNatClampNeg)) → vp_in x6 np1) (q6 : (¬ x2 ≤ x7) → (¬ (fp1 x7.toNatClampNeg) < (fp1 x6.toNatClampNeg)) → vp_in x7 np1) (q7 : (¬ x2 ≤ x7) → (¬ (fp1 x7.toNatClampNeg) < (fp1 x6.toNatClampNeg)) → ((fp1 x7.toNatClampNeg) ≤ (fp1 x6.toNatClampNeg)) → V G mX0_divide b 30 [some (.ref 36), some (.ref (p1 + 2)), some (.int x2), some (.int x3), some (.int x4), some (.int x5), some (.int (x6 + (1 : Int32))), some (.int (x7 + (1 : Int32)))] [] h Q) (q8 : (¬ x2 ≤ x7) → (¬ (fp1 x7.toNatClampNeg) < (fp1 x6.toNatClampNeg)) → (¬ (fp1 x7.toNatClampNeg) ≤ (fp1 x6.toNatClampNeg)) → V G mX0_divide b 30 [some (.ref 36), some (.ref (p1 + 2)), some (.int x2), some (.int x3), some (.int x4), some (.int x5), some (.int x4), some (.int (x7 + (1 : Int32)))] [] h Q) : V G mX0_divide b 30 [some (.ref 36), some (.ref (p1 + 2)), some (.int x2), some (.int x3), some (.int x4), some (.int x5), some (.int x6), some (.int x7)] [] h Q := by
  refine V_iload dX0_divide_30 rfl ?_
  refine V_iload_n dX0_divide_32 rfl rfl ?_
  refine V_icmp_ge (t := 75) dX0_divide_33 (by decide) (fun z1 => ?_) (fun z1 => ?_)
  ·
    refine V_iload dX0_divide_75 rfl ?_
    refine V_iload dX0_divide_77 rfl ?_
    refine V_isub dX0_divide_79 ?_
    refine V_istore dX0_divide_80 (Nat.le_of_ble_eq_true rfl) ?_
    exact V_sub (by exact (And.intro rfl (And.intro rfl (And.intro rfl (And.intro rfl (And.intro rfl (And.intro rfl (And.intro rfl (And.intro rfl (And.intro rfl True.intro)))))))))) (q1 z1)
  ·
    refine V_aload_n dX0_divide_36 rfl rfl ?_
    refine V_iload dX0_divide_37 rfl ?_
    refine V_iald dX0_divide_39 gp12 (q2 z1) ?_
    refine V_aload_n dX0_divide_40 rfl rfl ?_
    refine V_iload dX0_divide_41 rfl ?_
    refine V_iald dX0_divide_43 gp12 (q3 z1) ?_
    refine V_icmp_gt (t := 75) dX0_divide_44 (by decide) (fun z2 => ?_) (fun z2 => ?_)
    ·
      refine V_iload dX0_divide_75 rfl ?_
      refine V_iload dX0_divide_77 rfl ?_
      refine V_isub dX0_divide_79 ?_
      refine V_istore dX0_divide_80 (Nat.le_of_ble_eq_true rfl) ?_
      exact V_sub (by exact (And.intro rfl (And.intro rfl (And.intro rfl (And.intro rfl (And.intro rfl (And.intro rfl (And.intro rfl (And.intro rfl (And.intro rfl True.intro)))))))))) (q4 z1 z2)
    ·
      refine V_aload_n dX0_divide_47 rfl rfl ?_
      refine V_iload dX0_divide_48 rfl ?_
      refine V_iald dX0_divide_50 gp12 (q5 z1 z2) ?_
      refine V_aload_n dX0_divide_51 rfl rfl ?_
      refine V_iload dX0_divide_52 rfl ?_
      refine V_iald dX0_divide_54 gp12 (q6 z1 z2) ?_
      refine V_icmp_ge (t := 63) dX0_divide_55 (by decide) (fun z3 => ?_) (fun z3 => ?_)
      ·
        refine V_iload dX0_divide_63 rfl ?_
        refine V_iconst dX0_divide_65 ic_1 ?_
        refine V_iadd dX0_divide_66 ?_
        refine V_istore dX0_divide_67 (Nat.le_of_ble_eq_true rfl) ?_
        refine V_inc dX0_divide_69 ic_1 rfl (Nat.le_of_ble_eq_true rfl) ?_
        refine V_goto (t := 30) dX0_divide_72 (by decide) ?_
        exact V_sub (by exact (And.intro rfl (And.intro rfl (And.intro rfl (And.intro rfl (And.intro rfl (And.intro rfl (And.intro rfl (And.intro rfl True.intro))))))))) (q7 z1 z2 z3)
      ·
        refine V_iload dX0_divide_58 rfl ?_
        refine V_goto (t := 67) dX0_divide_60 (by decide) ?_
        refine V_istore dX0_divide_67 (Nat.le_of_ble_eq_true rfl) ?_
        refine V_inc dX0_divide_69 ic_1 rfl (Nat.le_of_ble_eq_true rfl) ?_
        refine V_goto (t := 30) dX0_divide_72 (by decide) ?_
        exact V_sub (by exact (And.intro rfl (And.intro rfl (And.intro rfl (And.intro rfl (And.intro rfl (And.intro rfl (And.intro rfl (And.intro rfl True.intro))))))))) (q8 z1 z2 z3)
theorem tX0_divide_82 {G : gx} {b : bg} {h : ah} {Q : Option Value → ah → Prop} {p1 : Nat} {x2 : Int32} {x3 : Int32} {x4 : Int32} {x5 : Int32} {x6 : Int32} {x7 : Int32} {x8 : Int32} {ptold : Int32} {pbeg : Nat → Int32} (g36 : h 36 = (0, .inl [.ref 37, .int ptold])) (g37 : h 37 = (0, .inr (200, .inl pbeg))) (q1 : (x6 < x4) → V G mX0_divide b 8 [some (.ref 36), some (.ref (p1 + 2)), some (.int x2), some (.int x3), some (.int x4), some (.int (x5 + (1 : Int32)))] [] h Q) (q2 : (¬ x6 < x4) → (x2 ≤ x3) → V G mX0_divide b 8 [some (.ref 36), some (.ref (p1 + 2)), some (.int x2), some (.int x3), some (.int x4), some (.int (x5 + (1 : Int32)))] [] h Q) (q3 : (¬ x6 < x4) → (¬ x2 ≤ x3) → vp_in x3 200) (q4 : (¬ x6 < x4) → (¬ x2 ≤ x3) → V G mX0_divide b 82 [some (.ref 36), some (.ref (p1 + 2)), some (.int x2), some (.int (x3 + (1 : Int32))), some (.int (x4 + x8)), some (.int x5), some (.int x6), some (.int x7), some (.int x8)] [] (va_up h 37 (0, .inr (200, .inl (upd pbeg x3.toNatClampNeg x4)))) Q) : V G mX0_divide b 82 [some (.ref 36), some (.ref (p1 + 2)), some (.int x2), some (.int x3), some (.int x4), some (.int x5), some (.int x6), some (.int x7), some (.int x8)] [] h Q := by
  refine V_iload dX0_divide_82 rfl ?_
  refine V_iload dX0_divide_84 rfl ?_
  refine V_icmp_gt (t := 115) dX0_divide_86 (by decide) (fun z1 => ?_) (fun z1 => ?_)
  ·
    refine V_inc dX0_divide_115 ic_1 rfl (Nat.le_of_ble_eq_true rfl) ?_
    refine V_goto (t := 8) dX0_divide_118 (by decide) ?_
    exact V_sub (by exact (And.intro rfl (And.intro rfl (And.intro rfl (And.intro rfl (And.intro rfl (And.intro rfl True.intro))))))) (q1 z1)
  ·
    refine V_iload_n dX0_divide_89 rfl rfl ?_
    refine V_iload_n dX0_divide_90 rfl rfl ?_
    refine V_icmp_ge (t := 115) dX0_divide_91 (by decide) (fun z2 => ?_) (fun z2 => ?_)
    ·
      refine V_inc dX0_divide_115 ic_1 rfl (Nat.le_of_ble_eq_true rfl) ?_
      refine V_goto (t := 8) dX0_divide_118 (by decide) ?_
      exact V_sub (by exact (And.intro rfl (And.intro rfl (And.intro rfl (And.intro rfl (And.intro rfl (And.intro rfl True.intro))))))) (q2 z1 z2)
    ·
      refine V_aload_n dX0_divide_94 rfl rfl ?_
      refine V_get (ci := 0) (j := 0) (C0 := RX0) (T := TX0) (N := 2) dX0_divide_95 rfl g36 (by decide) (by decide) kf_X0_9 rfl ?_
      refine V_iload_n dX0_divide_98 rfl rfl ?_
      refine V_iload dX0_divide_99 rfl ?_
      refine V_iast dX0_divide_101 g37 (q3 z1 z2) ?_
      refine V_iload dX0_divide_102 rfl ?_
      refine V_iload dX0_divide_104 rfl ?_
      refine V_iadd dX0_divide_106 ?_
      refine V_istore dX0_divide_107 (Nat.le_of_ble_eq_true rfl) ?_
      refine V_inc dX0_divide_109 ic_1 rfl (Nat.le_of_ble_eq_true rfl) ?_
      refine V_goto (t := 82) dX0_divide_112 (by decide) ?_
      exact V_sub (by exact (And.intro rfl (And.intro rfl (And.intro rfl (And.intro rfl (And.intro rfl (And.intro rfl (And.intro rfl (And.intro rfl (And.intro rfl True.intro)))))))))) (q4 z1 z2)
