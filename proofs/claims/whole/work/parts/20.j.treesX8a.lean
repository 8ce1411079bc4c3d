/-! trees of X8a -/
theorem tX8_in_0 {G : gx} {b : bg} {h : ah} {Q : Option Value → ah → Prop} {y0 : Int64} {y2 : Int64} {y4 : Int64} (q1 : ((lg_cmp y0 y2) < (0 : Int32)) → Q (some (.int (0 : Int32))) h) (q2 : (¬ (lg_cmp y0 y2) < (0 : Int32)) → ((0 : Int32) < (lg_cmp y0 y4)) → Q (some (.int (0 : Int32))) h) (q3 : (¬ (lg_cmp y0 y2) < (0 : Int32)) → (¬ (0 : Int32) < (lg_cmp y0 y4)) → Q (some (.int (1 : Int32))) h) : V G mX8_in b 0 [some (.long y0), none, some (.long y2), none, some (.long y4)] [] h Q := by
  refine V_lload_n dX8_in_0 rfl rfl ?_
  refine V_lload_n dX8_in_1 rfl rfl ?_
  refine V_lcmp dX8_in_2 ?_
  refine V_if_lt (t := 17) dX8_in_3 (by decide) (fun z1 => ?_) (fun z1 => ?_)
  ·
    refine V_iconst dX8_in_17 ic_0 ?_
    exact V_zret dX8_in_18 rfl rfl (q1 z1)
  ·
    refine V_lload_n dX8_in_6 rfl rfl ?_
    refine V_lload dX8_in_7 rfl ?_
    refine V_lcmp dX8_in_9 ?_
    refine V_if_gt (t := 17) dX8_in_10 (by decide) (fun z2 => ?_) (fun z2 => ?_)
    ·
      refine V_iconst dX8_in_17 ic_0 ?_
      exact V_zret dX8_in_18 rfl rfl (q2 z1 z2)
    ·
      refine V_iconst dX8_in_13 ic_1 ?_
      refine V_goto (t := 18) dX8_in_14 (by decide) ?_
      exact V_zret dX8_in_18 rfl rfl (q3 z1 z2)
theorem tX8_wheel_0 {G : gx} {b : bg} {h : ah} {Q : Option Value → ah → Prop} {x1 : Int32} {x2 : Int32} (q1 : V G mX8_wheel b 8 [some (.ref 42), some (.int x1), some (.int x2)] [.long (5 : Int64), .long (2 : Int64), .long (x1.toInt64)] h Q) : V G mX8_wheel b 0 [some (.ref 42), some (.int x1), some (.int x2)] [] h Q := by
  refine V_iload_n dX8_wheel_0 rfl rfl ?_
  refine V_i2l dX8_wheel_1 ?_
  refine V_ldc2 dX8_wheel_2 kk_X8_82 ?_
  refine V_ldc2 dX8_wheel_5 kk_X8_84 ?_
  exact V_sub (by exact (And.intro rfl (And.intro rfl (And.intro rfl True.intro)))) (q1)
theorem tX8_wheel_34 {G : gx} {b : bg} {h : ah} {Q : Option Value → ah → Prop} {x1 : Int32} {x2 : Int32} {x3 : Int32} {x4 : Int32} {mk : Int32} {mn : Int32} {mall : Int32} {msum : Int32} {mexchanges : Int32} {mcycleMany : Int32} {mwhich : Int32} {mlatest : Int32} {mfirstFound : Int32} {mpartMany : Int32} {mlength : Int32} (g42 : h 42 = (8, .inl [.int mk, .int mn, .int mall, .ref 43, .ref 44, .ref 45, .ref 46, .int msum, .ref 47, .int mexchanges, .ref 48, .ref 49, .ref 50, .ref 51, .int mcycleMany, .ref 52, .int mwhich, .ref 53, .ref 54, .ref 55, .ref 56, .ref 57, .ref 58, .int mlatest, .int mfirstFound, .int mpartMany, .ref 59, .int mlength, .ref 60, .ref 61, .ref 62, .ref 63, .ref 64])) (q1 : (x2 ≤ x4) → (x3 ≤ (20000 : Int32)) → V G mX8_wheel b 89 [some (.ref 42), some (.int x1), some (.int x2), some (.int x3), some (.int (0 : Int32))] [] (va_up (va_up (va_up h 42 (8, .inl [.int x1, .int mn, .int mall, .ref 43, .ref 44, .ref 45, .ref 46, .int msum, .ref 47, .int mexchanges, .ref 48, .ref 49, .ref 50, .ref 51, .int mcycleMany, .ref 52, .int mwhich, .ref 53, .ref 54, .ref 55, .ref 56, .ref 57, .ref 58, .int mlatest, .int mfirstFound, .int mpartMany, .ref 59, .int mlength, .ref 60, .ref 61, .ref 62, .ref 63, .ref 64])) 42 (8, .inl [.int x1, .int x2, .int mall, .ref 43, .ref 44, .ref 45, .ref 46, .int msum, .ref 47, .int mexchanges, .ref 48, .ref 49, .ref 50, .ref 51, .int mcycleMany, .ref 52, .int mwhich, .ref 53, .ref 54, .ref 55, .ref 56, .ref 57, .ref 58, .int mlatest, .int mfirstFound, .int mpartMany, .ref 59, .int mlength, .ref 60, .ref 61, .ref 62, .ref 63, .ref 64])) 42 (8, .inl [.int x1, .int x2, .int x3, .ref 43, .ref 44, .ref 45, .ref 46, .int msum, .ref 47, .int mexchanges, .ref 48, .ref 49, .ref 50, .ref 51, .int mcycleMany, .ref 52, .int mwhich, .ref 53, .ref 54, .ref 55, .ref 56, .ref 57, .ref 58, .int mlatest, .int mfirstFound, .int mpartMany, .ref 59, .int mlength, .ref 60, .ref 61, .ref 62, .ref 63, .ref 64])) Q) (q2 : (x2 ≤ x4) → (¬ x3 ≤ (20000 : Int32)) → Q (some (.int (-2 : Int32))) h) (q3 : (¬ x2 ≤ x4) → (x3 ≤ (20000 : Int32)) → V G mX8_wheel b 34 [some (.ref 42), some (.int x1), some (.int x2), some (.int (x3 * x1)), some (.int (x4 + (1 : Int32)))] [] h Q) (q4 : (¬ x2 ≤ x4) → (¬ x3 ≤ (20000 : Int32)) → V G mX8_wheel b 34 [some (.ref 42), some (.int x1), some (.int x2), some (.int x3), some (.int (x4 + (1 : Int32)))] [] h Q) : V G mX8_wheel b 34 [some (.ref 42), some (.int x1), some (.int x2), some (.int x3), some (.int x4)] [] h Q := by
  refine V_iload dX8_wheel_34 rfl ?_
  refine V_iload_n dX8_wheel_36 rfl rfl ?_
  refine V_icmp_ge (t := 61) dX8_wheel_37 (by decide) (fun z1 => ?_) (fun z1 => ?_)
  ·
    refine V_iload_n dX8_wheel_61 rfl rfl ?_
    refine V_sipush dX8_wheel_62 sp_20000 ?_
    refine V_icmp_le (t := 71) dX8_wheel_65 (by decide) (fun z2 => ?_) (fun z2 => ?_)
    ·
      refine V_aload_n dX8_wheel_71 rfl rfl ?_
      refine V_iload_n dX8_wheel_72 rfl rfl ?_
      refine V_put (ci := 8) (j := 0) (C0 := RX8) (T := TX8) (N := 33) (ty := .int) dX8_wheel_73 rfl g42 (by decide) (by decide) kf_X8_92 rfl (by decide +kernel) rfl rfl (Nat.le_of_ble_eq_true rfl) ?_
      refine V_aload_n dX8_wheel_76 rfl rfl ?_
      refine V_iload_n dX8_wheel_77 rfl rfl ?_
      refine V_put (ci := 8) (j := 1) (C0 := RX8) (T := TX8) (N := 33) (ty := .int) dX8_wheel_78 rfl rfl (by decide) (by decide) kf_X8_96 rfl (by decide +kernel) rfl rfl (Nat.le_of_ble_eq_true rfl) ?_
      refine V_aload_n dX8_wheel_81 rfl rfl ?_
      refine V_iload_n dX8_wheel_82 rfl rfl ?_
      refine V_put (ci := 8) (j := 2) (C0 := RX8) (T := TX8) (N := 33) (ty := .int) dX8_wheel_83 rfl rfl (by decide) (by decide) kf_X8_99 rfl (by decide +kernel) rfl rfl (Nat.le_of_ble_eq_true rfl) ?_
      refine V_iconst dX8_wheel_86 ic_0 ?_
      refine V_istore dX8_wheel_87 (Nat.le_of_ble_eq_true rfl) ?_
      exact V_sub (by exact (And.intro rfl (And.intro rfl (And.intro rfl (And.intro rfl (And.intro rfl True.intro)))))) (q1 z1 z2)
    ·
      refine V_bipush dX8_wheel_68 bp_m2 ?_
      exact V_iret dX8_wheel_70 rfl (q2 z1 z2)
  ·
    refine V_iload_n dX8_wheel_40 rfl rfl ?_
    refine V_sipush dX8_wheel_41 sp_20000 ?_
    refine V_icmp_le (t := 51) dX8_wheel_44 (by decide) (fun z3 => ?_) (fun z3 => ?_)
    ·
      refine V_iload_n dX8_wheel_51 rfl rfl ?_
      refine V_iload_n dX8_wheel_52 rfl rfl ?_
      refine V_imul dX8_wheel_53 ?_
      refine V_istore_n dX8_wheel_54 rfl (Nat.le_of_ble_eq_true rfl) ?_
      refine V_inc dX8_wheel_55 ic_1 rfl (Nat.le_of_ble_eq_true rfl) ?_
      refine V_goto (t := 34) dX8_wheel_58 (by decide) ?_
      exact V_sub (by exact (And.intro rfl (And.intro rfl (And.intro rfl (And.intro rfl (And.intro rfl True.intro)))))) (q3 z1 z3)
    ·
      refine V_iload_n dX8_wheel_47 rfl rfl ?_
      refine V_goto (t := 54) dX8_wheel_48 (by decide) ?_
      refine V_istore_n dX8_wheel_54 rfl (Nat.le_of_ble_eq_true rfl) ?_
      refine V_inc dX8_wheel_55 ic_1 rfl (Nat.le_of_ble_eq_true rfl) ?_
      refine V_goto (t := 34) dX8_wheel_58 (by decide) ?_
      exact V_sub (by exact (And.intro rfl (And.intro rfl (And.intro rfl (And.intro rfl (And.intro rfl True.intro)))))) (q4 z1 z3)
theorem tX8_wheel_89 {G : gx} {b : bg} {h : ah} {Q : Option Value → ah → Prop} {x1 : Int32} {x2 : Int32} {x3 : Int32} {x4 : Int32} {mk : Int32} {mn : Int32} {mall : Int32} {msum : Int32} {mexchanges : Int32} {mcycleMany : Int32} {mwhich : Int32} {mlatest : Int32} {mfirstFound : Int32} {mpartMany : Int32} {mlength : Int32} (g42 : h 42 = (8, .inl [.int mk, .int mn, .int mall, .ref 43, .ref 44, .ref 45, .ref 46, .int msum, .ref 47, .int mexchanges, .ref 48, .ref 49, .ref 50, .ref 51, .int mcycleMany, .ref 52, .int mwhich, .ref 53, .ref 54, .ref 55, .ref 56, .ref 57, .ref 58, .int mlatest, .int mfirstFound, .int mpartMany, .ref 59, .int mlength, .ref 60, .ref 61, .ref 62, .ref 63, .ref 64])) (q1 : (mall ≤ x4) → V G mX8_wheel b 120 [some (.ref 42), some (.int x1), some (.int x2), some (.int x3), some (.int (0 : Int32))] [] h Q) (q2 : (¬ mall ≤ x4) → V G mX8_wheel b 107 [some (.ref 42), some (.int x1), some (.int x2), some (.int x3), some (.int x4)] [.int x4, .ref 42, .int x4, .ref 43] h Q) : V G mX8_wheel b 89 [some (.ref 42), some (.int x1), some (.int x2), some (.int x3), some (.int x4)] [] h Q := by
  refine V_iload dX8_wheel_89 rfl ?_
  refine V_aload_n dX8_wheel_91 rfl rfl ?_
  refine V_get (ci := 8) (j := 2) (C0 := RX8) (T := TX8) (N := 33) dX8_wheel_92 rfl g42 (by decide) (by decide) kf_X8_99 rfl ?_
  refine V_icmp_ge (t := 117) dX8_wheel_95 (by decide) (fun z1 => ?_) (fun z1 => ?_)
  ·
    refine V_iconst dX8_wheel_117 ic_0 ?_
    refine V_istore dX8_wheel_118 (Nat.le_of_ble_eq_true rfl) ?_
    exact V_sub (by exact (And.intro rfl (And.intro rfl (And.intro rfl (And.intro rfl (And.intro rfl True.intro)))))) (q1 z1)
  ·
    refine V_aload_n dX8_wheel_98 rfl rfl ?_
    refine V_get (ci := 8) (j := 3) (C0 := RX8) (T := TX8) (N := 33) dX8_wheel_99 rfl g42 (by decide) (by decide) kf_X8_7 rfl ?_
    refine V_iload dX8_wheel_102 rfl ?_
    refine V_aload_n dX8_wheel_104 rfl rfl ?_
    refine V_iload dX8_wheel_105 rfl ?_
    exact V_sub (by exact (And.intro rfl (And.intro rfl (And.intro rfl (And.intro rfl (And.intro rfl True.intro)))))) (q2 z1)
theorem tX8_wheel_120 {G : gx} {b : bg} {h : ah} {Q : Option Value → ah → Prop} {x1 : Int32} {x2 : Int32} {x3 : Int32} {x4 : Int32} {mk : Int32} {mn : Int32} {mall : Int32} {msum : Int32} {mexchanges : Int32} {mcycleMany : Int32} {mwhich : Int32} {mlatest : Int32} {mfirstFound : Int32} {mpartMany : Int32} {mlength : Int32} {mfactors : Nat → Int32} (g42 : h 42 = (8, .inl [.int mk, .int mn, .int mall, .ref 43, .ref 44, .ref 45, .ref 46, .int msum, .ref 47, .int mexchanges, .ref 48, .ref 49, .ref 50, .ref 51, .int mcycleMany, .ref 52, .int mwhich, .ref 53, .ref 54, .ref 55, .ref 56, .ref 57, .ref 58, .int mlatest, .int mfirstFound, .int mpartMany, .ref 59, .int mlength, .ref 60, .ref 61, .ref 62, .ref 63, .ref 64])) (g46 : h 46 = (0, .inr (14, .inl mfactors))) (q1 : ((14 : Int32) ≤ x4) → V G mX8_wheel b 156 [some (.ref 42), some (.int x1), some (.int x2), some (.int x3), some (.int x4)] [.ref 42] (va_up h 42 (8, .inl [.int mk, .int mn, .int mall, .ref 43, .ref 44, .ref 45, .ref 46, .int (0 : Int32), .ref 47, .int mexchanges, .ref 48, .ref 49, .ref 50, .ref 51, .int mcycleMany, .ref 52, .int mwhich, .ref 53, .ref 54, .ref 55, .ref 56, .ref 57, .ref 58, .int mlatest, .int mfirstFound, .int mpartMany, .ref 59, .int mlength, .ref 60, .ref 61, .ref 62, .ref 63, .ref 64])) Q) (q2 : (¬ (14 : Int32) ≤ x4) → (¬ x4 = (0 : Int32)) → vp_in x4 14) (q3 : (¬ (14 : Int32) ≤ x4) → (¬ x4 = (0 : Int32)) → V G mX8_wheel b 120 [some (.ref 42), some (.int x1), some (.int x2), some (.int x3), some (.int (x4 + (1 : Int32)))] [] (va_up h 46 (0, .inr (14, .inl (upd mfactors x4.toNatClampNeg (0 : Int32))))) Q) (q4 : (¬ (14 : Int32) ≤ x4) → (x4 = (0 : Int32)) → vp_in x4 14) (q5 : (¬ (14 : Int32) ≤ x4) → (x4 = (0 : Int32)) → V G mX8_wheel b 120 [some (.ref 42), some (.int x1), some (.int x2), some (.int x3), some (.int (x4 + (1 : Int32)))] [] (va_up h 46 (0, .inr (14, .inl (upd mfactors x4.toNatClampNeg (1 : Int32))))) Q) : V G mX8_wheel b 120 [some (.ref 42), some (.int x1), some (.int x2), some (.int x3), some (.int x4)] [] h Q := by
  refine V_iload dX8_wheel_120 rfl ?_
  refine V_bipush dX8_wheel_122 bp_14 ?_
  refine V_icmp_ge (t := 150) dX8_wheel_124 (by decide) (fun z1 => ?_) (fun z1 => ?_)
  ·
    refine V_aload_n dX8_wheel_150 rfl rfl ?_
    refine V_iconst dX8_wheel_151 ic_0 ?_
    refine V_put (ci := 8) (j := 7) (C0 := RX8) (T := TX8) (N := 33) (ty := .int) dX8_wheel_152 rfl g42 (by decide) (by decide) kf_X8_106 rfl (by decide +kernel) rfl rfl (Nat.le_of_ble_eq_true rfl) ?_
    refine V_aload_n dX8_wheel_155 rfl rfl ?_
    exact V_sub (by exact (And.intro rfl (And.intro rfl (And.intro rfl (And.intro rfl (And.intro rfl True.intro)))))) (q1 z1)
  ·
    refine V_aload_n dX8_wheel_127 rfl rfl ?_
    refine V_get (ci := 8) (j := 6) (C0 := RX8) (T := TX8) (N := 33) dX8_wheel_128 rfl g42 (by decide) (by decide) kf_X8_19 rfl ?_
    refine V_iload dX8_wheel_131 rfl ?_
    refine V_iload dX8_wheel_133 rfl ?_
    refine V_if_ne (t := 142) dX8_wheel_135 (by decide) (fun z2 => ?_) (fun z2 => ?_)
    ·
      refine V_iconst dX8_wheel_142 ic_0 ?_
      refine V_iast dX8_wheel_143 g46 (q2 z1 z2) ?_
      refine V_inc dX8_wheel_144 ic_1 rfl (Nat.le_of_ble_eq_true rfl) ?_
      refine V_goto (t := 120) dX8_wheel_147 (by decide) ?_
      exact V_sub (by exact (And.intro rfl (And.intro rfl (And.intro rfl (And.intro rfl (And.intro rfl True.intro)))))) (q3 z1 z2)
    ·
      refine V_iconst dX8_wheel_138 ic_1 ?_
      refine V_goto (t := 143) dX8_wheel_139 (by decide) ?_
      refine V_iast dX8_wheel_143 g46 (q4 z1 z2) ?_
      refine V_inc dX8_wheel_144 ic_1 rfl (Nat.le_of_ble_eq_true rfl) ?_
      refine V_goto (t := 120) dX8_wheel_147 (by decide) ?_
      exact V_sub (by exact (And.intro rfl (And.intro rfl (And.intro rfl (And.intro rfl (And.intro rfl True.intro)))))) (q5 z1 z2)
theorem tX8_wheel_11 {G : gx} {b : bg} {h : ah} {Q : Option Value → ah → Prop} {x1 : Int32} {x2 : Int32} {s0 : Int32} (q1 : (s0 = (0 : Int32)) → Q (some (.int (-2 : Int32))) h) (q2 : (¬ s0 = (0 : Int32)) → V G mX8_wheel b 20 [some (.ref 42), some (.int x1), some (.int x2)] [.long (14 : Int64), .long (1 : Int64), .long (x2.toInt64)] h Q) : V G mX8_wheel b 11 [some (.ref 42), some (.int x1), some (.int x2)] [.int s0] h Q := by
  refine V_if_eq (t := 26) dX8_wheel_11 (by decide) (fun z1 => ?_) (fun z1 => ?_)
  ·
    refine V_bipush dX8_wheel_26 bp_m2 ?_
    exact V_iret dX8_wheel_28 rfl (q1 z1)
  ·
    refine V_iload_n dX8_wheel_14 rfl rfl ?_
    refine V_i2l dX8_wheel_15 ?_
    refine V_lconst dX8_wheel_16 lc_1 ?_
    refine V_ldc2 dX8_wheel_17 kk_X8_90 ?_
    exact V_sub (by exact (And.intro rfl (And.intro rfl (And.intro rfl True.intro)))) (q2 z1)
theorem tX8_wheel_23 {G : gx} {b : bg} {h : ah} {Q : Option Value → ah → Prop} {x1 : Int32} {x2 : Int32} {s0 : Int32} (q1 : (¬ s0 = (0 : Int32)) → V G mX8_wheel b 34 [some (.ref 42), some (.int x1), some (.int x2), some (.int (1 : Int32)), some (.int (0 : Int32))] [] h Q) (q2 : (s0 = (0 : Int32)) → Q (some (.int (-2 : Int32))) h) : V G mX8_wheel b 23 [some (.ref 42), some (.int x1), some (.int x2)] [.int s0] h Q := by
  refine V_if_ne (t := 29) dX8_wheel_23 (by decide) (fun z1 => ?_) (fun z1 => ?_)
  ·
    refine V_iconst dX8_wheel_29 ic_1 ?_
    refine V_istore_n dX8_wheel_30 rfl (Nat.le_of_ble_eq_true rfl) ?_
    refine V_iconst dX8_wheel_31 ic_0 ?_
    refine V_istore dX8_wheel_32 (Nat.le_of_ble_eq_true rfl) ?_
    exact V_sub (by exact (And.intro rfl (And.intro rfl (And.intro rfl (And.intro rfl (And.intro rfl True.intro)))))) (q1 z1)
  ·
    refine V_bipush dX8_wheel_26 bp_m2 ?_
    exact V_iret dX8_wheel_28 rfl (q2 z1)
theorem tX8_wheel_110 {G : gx} {b : bg} {h : ah} {Q : Option Value → ah → Prop} {x1 : Int32} {x2 : Int32} {x3 : Int32} {x4 : Int32} {s0 : Int32} {s1 : Int32} {mleasts : Nat → Int32} (g43 : h 43 = (0, .inr (20000, .inl mleasts))) (q1 : vp_in s1 20000) (q2 : V G mX8_wheel b 89 [some (.ref 42), some (.int x1), some (.int x2), some (.int x3), some (.int (x4 + (1 : Int32)))] [] (va_up h 43 (0, .inr (20000, .inl (upd mleasts s1.toNatClampNeg s0)))) Q) : V G mX8_wheel b 110 [some (.ref 42), some (.int x1), some (.int x2), some (.int x3), some (.int x4)] [.int s0, .int s1, .ref 43] h Q := by
  refine V_iast dX8_wheel_110 g43 (q1) ?_
  refine V_inc dX8_wheel_111 ic_1 rfl (Nat.le_of_ble_eq_true rfl) ?_
  refine V_goto (t := 89) dX8_wheel_114 (by decide) ?_
  exact V_sub (by exact (And.intro rfl (And.intro rfl (And.intro rfl (And.intro rfl (And.intro rfl True.intro)))))) (q2)
theorem tX8_wheel_159 {G : gx} {b : bg} {h : ah} {Q : Option Value → ah → Prop} {x1 : Int32} {x2 : Int32} {x3 : Int32} {x4 : Int32} {mk : Int32} {mn : Int32} {mall : Int32} {msum : Int32} {mexchanges : Int32} {mcycleMany : Int32} {mwhich : Int32} {mlatest : Int32} {mfirstFound : Int32} {mpartMany : Int32} {mlength : Int32} (g42 : h 42 = (8, .inl [.int mk, .int mn, .int mall, .ref 43, .ref 44, .ref 45, .ref 46, .int msum, .ref 47, .int mexchanges, .ref 48, .ref 49, .ref 50, .ref 51, .int mcycleMany, .ref 52, .int mwhich, .ref 53, .ref 54, .ref 55, .ref 56, .ref 57, .ref 58, .int mlatest, .int mfirstFound, .int mpartMany, .ref 59, .int mlength, .ref 60, .ref 61, .ref 62, .ref 63, .ref 64])) (q1 : Q (some (.int mall)) (va_up (va_up h 42 (8, .inl [.int mk, .int mn, .int mall, .ref 43, .ref 44, .ref 45, .ref 46, .int msum, .ref 47, .int mexchanges, .ref 48, .ref 49, .ref 50, .ref 51, .int mcycleMany, .ref 52, .int (-1 : Int32), .ref 53, .ref 54, .ref 55, .ref 56, .ref 57, .ref 58, .int mlatest, .int mfirstFound, .int mpartMany, .ref 59, .int mlength, .ref 60, .ref 61, .ref 62, .ref 63, .ref 64])) 42 (8, .inl [.int mk, .int mn, .int mall, .ref 43, .ref 44, .ref 45, .ref 46, .int msum, .ref 47, .int mexchanges, .ref 48, .ref 49, .ref 50, .ref 51, .int mcycleMany, .ref 52, .int (-1 : Int32), .ref 53, .ref 54, .ref 55, .ref 56, .ref 57, .ref 58, .int mlatest, .int (-1 : Int32), .int mpartMany, .ref 59, .int mlength, .ref 60, .ref 61, .ref 62, .ref 63, .ref 64]))) : V G mX8_wheel b 159 [some (.ref 42), some (.int x1), some (.int x2), some (.int x3), some (.int x4)] [] h Q := by
  refine V_aload_n dX8_wheel_159 rfl rfl ?_
  refine V_iconst dX8_wheel_160 ic_m1 ?_
  refine V_put (ci := 8) (j := 16) (C0 := RX8) (T := TX8) (N := 33) (ty := .int) dX8_wheel_161 rfl g42 (by decide) (by decide) kf_X8_112 rfl (by decide +kernel) rfl rfl (Nat.le_of_ble_eq_true rfl) ?_
  refine V_aload_n dX8_wheel_164 rfl rfl ?_
  refine V_iconst dX8_wheel_165 ic_m1 ?_
  refine V_put (ci := 8) (j := 24) (C0 := RX8) (T := TX8) (N := 33) (ty := .int) dX8_wheel_166 rfl rfl (by decide) (by decide) kf_X8_115 rfl (by decide +kernel) rfl rfl (Nat.le_of_ble_eq_true rfl) ?_
  refine V_aload_n dX8_wheel_169 rfl rfl ?_
  refine V_get (ci := 8) (j := 2) (C0 := RX8) (T := TX8) (N := 33) dX8_wheel_170 rfl rfl (by decide) (by decide) kf_X8_99 rfl ?_
  exact V_iret dX8_wheel_173 rfl (q1)
theorem cX8_wheel_8 {G : gx} {d mc ms cc zz d2 mc2 ms2 : Nat} {L : List (Option Value)} {S : List Value} {h : ah} {Q Q2 : Option Value → ah → Prop} {a0 a1 a2 : Value} (hM : Ct G mX8_in d2 mc2 ms2 [a0, a1, a2] h Q2) (hdd : d2 < d ∧ d ≤ 9) (hrm : (S.map fun v => v.category).sum ≤ 8) (hf : cc + mc2 ≤ mc ∧ zz + ms2 ≤ ms) (kk : ∀ r h2, Q2 r h2 → V G mX8_wheel (d, mc, ms, cc + mc2, zz + ms2) 11 L (r.toList ++ S) h2 Q) : V G mX8_wheel (d, mc, ms, cc, zz) 8 L (a2 :: a1 :: a0 :: S) h Q := V_callS hM dX8_wheel_8 ⟨km_X8_86, kt_X8_in⟩ cw_X8_in hdd rfl rfl hrm hf kk
theorem cX8_wheel_20 {G : gx} {d mc ms cc zz d2 mc2 ms2 : Nat} {L : List (Option Value)} {S : List Value} {h : ah} {Q Q2 : Option Value → ah → Prop} {a0 a1 a2 : Value} (hM : Ct G mX8_in d2 mc2 ms2 [a0, a1, a2] h Q2) (hdd : d2 < d ∧ d ≤ 9) (hrm : (S.map fun v => v.category).sum ≤ 8) (hf : cc + mc2 ≤ mc ∧ zz + ms2 ≤ ms) (kk : ∀ r h2, Q2 r h2 → V G mX8_wheel (d, mc, ms, cc + mc2, zz + ms2) 23 L (r.toList ++ S) h2 Q) : V G mX8_wheel (d, mc, ms, cc, zz) 20 L (a2 :: a1 :: a0 :: S) h Q := V_callS hM dX8_wheel_20 ⟨km_X8_86, kt_X8_in⟩ cw_X8_in hdd rfl rfl hrm hf kk
theorem cX8_wheel_107 {G : gx} {d mc ms cc zz d2 mc2 ms2 : Nat} {L : List (Option Value)} {S : List Value} {h : ah} {Q Q2 : Option Value → ah → Prop} {k : Nat} {fs : List Value} {a0 : Value} (hM : Ct G mX8_leastOf d2 mc2 ms2 (.ref (k + 2) :: [a0]) h Q2) (hc : h (k + 2) = (8, .inl fs)) (hdd : d2 < d ∧ d ≤ 9) (hrm : (S.map fun v => v.category).sum ≤ 8) (hf : cc + mc2 ≤ mc ∧ zz + ms2 ≤ ms) (kk : ∀ r h2, Q2 r h2 → V G mX8_wheel (d, mc, ms, cc + mc2, zz + ms2) 110 L (r.toList ++ S) h2 Q) : V G mX8_wheel (d, mc, ms, cc, zz) 107 L (a0 :: .ref (k + 2) :: S) h Q := V_callV (ci := 8) (T := TX8) (N := 33) hM dX8_wheel_107 ⟨km_X8_102, ki_X8_leastOf, ks_X8_leastOf⟩ cw_X8_leastOf rfl hc (by decide) hdd rfl rfl hrm hf kk
theorem cX8_wheel_156 {G : gx} {d mc ms cc zz d2 mc2 ms2 : Nat} {L : List (Option Value)} {S : List Value} {h : ah} {Q Q2 : Option Value → ah → Prop} {k : Nat} {fs : List Value} (hM : Ct G mX8_lead d2 mc2 ms2 (.ref (k + 2) :: []) h Q2) (hc : h (k + 2) = (8, .inl fs)) (hdd : d2 < d ∧ d ≤ 9) (hrm : (S.map fun v => v.category).sum ≤ 8) (hf : cc + mc2 ≤ mc ∧ zz + ms2 ≤ ms) (kk : ∀ r h2, Q2 r h2 → V G mX8_wheel (d, mc, ms, cc + mc2, zz + ms2) 159 L (r.toList ++ S) h2 Q) : V G mX8_wheel (d, mc, ms, cc, zz) 156 L (.ref (k + 2) :: S) h Q := V_callV (ci := 8) (T := TX8) (N := 33) hM dX8_wheel_156 ⟨km_X8_109, ki_X8_lead, ks_X8_lead⟩ cw_X8_lead rfl hc (by decide) hdd rfl rfl hrm hf kk
theorem tX8_isWord_0 {G : gx} {b : bg} {h : ah} {Q : Option Value → ah → Prop} {x1 : Int32} {mk : Int32} {mn : Int32} {mall : Int32} {msum : Int32} {mexchanges : Int32} {mcycleMany : Int32} {mwhich : Int32} {mlatest : Int32} {mfirstFound : Int32} {mpartMany : Int32} {mlength : Int32} (g42 : h 42 = (8, .inl [.int mk, .int mn, .int mall, .ref 43, .ref 44, .ref 45, .ref 46, .int msum, .ref 47, .int mexchanges, .ref 48, .ref 49, .ref 50, .ref 51, .int mcycleMany, .ref 52, .int mwhich, .ref 53, .ref 54, .ref 55, .ref 56, .ref 57, .ref 58, .int mlatest, .int mfirstFound, .int mpartMany, .ref 59, .int mlength, .ref 60, .ref 61, .ref 62, .ref 63, .ref 64])) (q1 : V G mX8_isWord b 10 [some (.ref 42), some (.int x1)] [.long ((mall - (1 : Int32)).toInt64), .long (0 : Int64), .long (x1.toInt64)] h Q) : V G mX8_isWord b 0 [some (.ref 42), some (.int x1)] [] h Q := by
  refine V_iload_n dX8_isWord_0 rfl rfl ?_
  refine V_i2l dX8_isWord_1 ?_
  refine V_lconst dX8_isWord_2 lc_0 ?_
  refine V_aload_n dX8_isWord_3 rfl rfl ?_
  refine V_get (ci := 8) (j := 2) (C0 := RX8) (T := TX8) (N := 33) dX8_isWord_4 rfl g42 (by decide) (by decide) kf_X8_99 rfl ?_
  refine V_iconst dX8_isWord_7 ic_1 ?_
  refine V_isub dX8_isWord_8 ?_
  refine V_i2l dX8_isWord_9 ?_
  exact V_sub (by exact (And.intro rfl (And.intro rfl True.intro))) (q1)
theorem tX8_isWord_13 {G : gx} {b : bg} {h : ah} {Q : Option Value → ah → Prop} {x1 : Int32} {s0 : Int32} (q1 : Q (some (.int s0)) h) (q2 : narrow .boolean (.int s0) = .int s0) : V G mX8_isWord b 13 [some (.ref 42), some (.int x1)] [.int s0] h Q := by
  exact V_zret dX8_isWord_13 rfl (q2) (q1)
theorem cX8_isWord_10 {G : gx} {d mc ms cc zz d2 mc2 ms2 : Nat} {L : List (Option Value)} {S : List Value} {h : ah} {Q Q2 : Option Value → ah → Prop} {a0 a1 a2 : Value} (hM : Ct G mX8_in d2 mc2 ms2 [a0, a1, a2] h Q2) (hdd : d2 < d ∧ d ≤ 9) (hrm : (S.map fun v => v.category).sum ≤ 8) (hf : cc + mc2 ≤ mc ∧ zz + ms2 ≤ ms) (kk : ∀ r h2, Q2 r h2 → V G mX8_isWord (d, mc, ms, cc + mc2, zz + ms2) 13 L (r.toList ++ S) h2 Q) : V G mX8_isWord (d, mc, ms, cc, zz) 10 L (a2 :: a1 :: a0 :: S) h Q := V_callS hM dX8_isWord_10 ⟨km_X8_86, kt_X8_in⟩ cw_X8_in hdd rfl rfl hrm hf kk
theorem tX8_next_0 {G : gx} {b : bg} {h : ah} {Q : Option Value → ah → Prop} {x1 : Int32} {mk : Int32} {mn : Int32} {mall : Int32} {msum : Int32} {mexchanges : Int32} {mcycleMany : Int32} {mwhich : Int32} {mlatest : Int32} {mfirstFound : Int32} {mpartMany : Int32} {mlength : Int32} (g42 : h 42 = (8, .inl [.int mk, .int mn, .int mall, .ref 43, .ref 44, .ref 45, .ref 46, .int msum, .ref 47, .int mexchanges, .ref 48, .ref 49, .ref 50, .ref 51, .int mcycleMany, .ref 52, .int mwhich, .ref 53, .ref 54, .ref 55, .ref 56, .ref 57, .ref 58, .int mlatest, .int mfirstFound, .int mpartMany, .ref 59, .int mlength, .ref 60, .ref 61, .ref 62, .ref 63, .ref 64])) (q1 : ¬ mk = 0) (q2 : ¬ (mall / mk) = 0) (q3 : ¬ (mall / mk) = 0) (q4 : Q (some (.int (((x1 - x1 / (mall / mk) * (mall / mk)) * mk) + (x1 / (mall / mk))))) h) : V G mX8_next b 0 [some (.ref 42), some (.int x1)] [] h Q := by
  refine V_aload_n dX8_next_0 rfl rfl ?_
  refine V_get (ci := 8) (j := 2) (C0 := RX8) (T := TX8) (N := 33) dX8_next_1 rfl g42 (by decide) (by decide) kf_X8_99 rfl ?_
  refine V_aload_n dX8_next_4 rfl rfl ?_
  refine V_get (ci := 8) (j := 0) (C0 := RX8) (T := TX8) (N := 33) dX8_next_5 rfl g42 (by decide) (by decide) kf_X8_92 rfl ?_
  refine V_idiv dX8_next_8 (q1) ?_
  refine V_istore_n dX8_next_9 rfl (Nat.le_of_ble_eq_true rfl) ?_
  refine V_iload_n dX8_next_10 rfl rfl ?_
  refine V_iload_n dX8_next_11 rfl rfl ?_
  refine V_irem dX8_next_12 (q2) ?_
  refine V_aload_n dX8_next_13 rfl rfl ?_
  refine V_get (ci := 8) (j := 0) (C0 := RX8) (T := TX8) (N := 33) dX8_next_14 rfl g42 (by decide) (by decide) kf_X8_92 rfl ?_
  refine V_imul dX8_next_17 ?_
  refine V_iload_n dX8_next_18 rfl rfl ?_
  refine V_iload_n dX8_next_19 rfl rfl ?_
  refine V_idiv dX8_next_20 (q3) ?_
  refine V_iadd dX8_next_21 ?_
  exact V_iret dX8_next_22 rfl (q4)
theorem tX8_leastOf_0 {G : gx} {b : bg} {h : ah} {Q : Option Value → ah → Prop} {x1 : Int32} (q1 : V G mX8_leastOf b 4 [some (.ref 42), some (.int x1), some (.int x1)] [.int x1, .ref 42] h Q) : V G mX8_leastOf b 0 [some (.ref 42), some (.int x1)] [] h Q := by
  refine V_iload_n dX8_leastOf_0 rfl rfl ?_
  refine V_istore_n dX8_leastOf_1 rfl (Nat.le_of_ble_eq_true rfl) ?_
  refine V_aload_n dX8_leastOf_2 rfl rfl ?_
  refine V_iload_n dX8_leastOf_3 rfl rfl ?_
  exact V_sub (by exact (And.intro rfl (And.intro rfl (And.intro rfl True.intro)))) (q1)
theorem tX8_leastOf_8 {G : gx} {b : bg} {h : ah} {Q : Option Value → ah → Prop} {x1 : Int32} {x2 : Int32} {x3 : Int32} (q1 : (x3 = x1) → Q (some (.int x2)) h) (q2 : (¬ x3 = x1) → (x2 ≤ x3) → V G mX8_leastOf b 26 [some (.ref 42), some (.int x1), some (.int x2), some (.int x3)] [.int x3, .ref 42] h Q) (q3 : (¬ x3 = x1) → (¬ x2 ≤ x3) → V G mX8_leastOf b 26 [some (.ref 42), some (.int x1), some (.int x3), some (.int x3)] [.int x3, .ref 42] h Q) : V G mX8_leastOf b 8 [some (.ref 42), some (.int x1), some (.int x2), some (.int x3)] [] h Q := by
  refine V_iload_n dX8_leastOf_8 rfl rfl ?_
  refine V_iload_n dX8_leastOf_9 rfl rfl ?_
  refine V_icmp_eq (t := 33) dX8_leastOf_10 (by decide) (fun z1 => ?_) (fun z1 => ?_)
  ·
    refine V_iload_n dX8_leastOf_33 rfl rfl ?_
    exact V_iret dX8_leastOf_34 rfl (q1 z1)
  ·
    refine V_iload_n dX8_leastOf_13 rfl rfl ?_
    refine V_iload_n dX8_leastOf_14 rfl rfl ?_
    refine V_icmp_ge (t := 22) dX8_leastOf_15 (by decide) (fun z2 => ?_) (fun z2 => ?_)
    ·
      refine V_iload_n dX8_leastOf_22 rfl rfl ?_
      refine V_istore_n dX8_leastOf_23 rfl (Nat.le_of_ble_eq_true rfl) ?_
      refine V_aload_n dX8_leastOf_24 rfl rfl ?_
      refine V_iload_n dX8_leastOf_25 rfl rfl ?_
      exact V_sub (by exact (And.intro rfl (And.intro rfl (And.intro rfl (And.intro rfl True.intro))))) (q2 z1 z2)
    ·
      refine V_iload_n dX8_leastOf_18 rfl rfl ?_
      refine V_goto (t := 23) dX8_leastOf_19 (by decide) ?_
      refine V_istore_n dX8_leastOf_23 rfl (Nat.le_of_ble_eq_true rfl) ?_
      refine V_aload_n dX8_leastOf_24 rfl rfl ?_
      refine V_iload_n dX8_leastOf_25 rfl rfl ?_
      exact V_sub (by exact (And.intro rfl (And.intro rfl (And.intro rfl (And.intro rfl True.intro))))) (q3 z1 z2)
theorem tX8_leastOf_7 {G : gx} {b : bg} {h : ah} {Q : Option Value → ah → Prop} {x1 : Int32} {x2 : Int32} {s0 : Int32} (q1 : V G mX8_leastOf b 8 [some (.ref 42), some (.int x1), some (.int x2), some (.int s0)] [] h Q) : V G mX8_leastOf b 7 [some (.ref 42), some (.int x1), some (.int x2)] [.int s0] h Q := by
  refine V_istore_n dX8_leastOf_7 rfl (Nat.le_of_ble_eq_true rfl) ?_
  exact V_sub (by exact (And.intro rfl (And.intro rfl (And.intro rfl (And.intro rfl True.intro))))) (q1)
theorem tX8_leastOf_29 {G : gx} {b : bg} {h : ah} {Q : Option Value → ah → Prop} {x1 : Int32} {x2 : Int32} {x3 : Int32} {s0 : Int32} (q1 : V G mX8_leastOf b 8 [some (.ref 42), some (.int x1), some (.int x2), some (.int s0)] [] h Q) : V G mX8_leastOf b 29 [some (.ref 42), some (.int x1), some (.int x2), some (.int x3)] [.int s0] h Q := by
  refine V_istore_n dX8_leastOf_29 rfl (Nat.le_of_ble_eq_true rfl) ?_
  refine V_goto (t := 8) dX8_leastOf_30 (by decide) ?_
  exact V_sub (by exact (And.intro rfl (And.intro rfl (And.intro rfl (And.intro rfl True.intro))))) (q1)
theorem cX8_leastOf_4 {G : gx} {d mc ms cc zz d2 mc2 ms2 : Nat} {L : List (Option Value)} {S : List Value} {h : ah} {Q Q2 : Option Value → ah → Prop} {k : Nat} {fs : List Value} {a0 : Value} (hM : Ct G mX8_next d2 mc2 ms2 (.ref (k + 2) :: [a0]) h Q2) (hc : h (k + 2) = (8, .inl fs)) (hdd : d2 < d ∧ d ≤ 9) (hrm : (S.map fun v => v.category).sum ≤ 8) (hf : cc + mc2 ≤ mc ∧ zz + ms2 ≤ ms) (kk : ∀ r h2, Q2 r h2 → V G mX8_leastOf (d, mc, ms, cc + mc2, zz + ms2) 7 L (r.toList ++ S) h2 Q) : V G mX8_leastOf (d, mc, ms, cc, zz) 4 L (a0 :: .ref (k + 2) :: S) h Q := V_callV (ci := 8) (T := TX8) (N := 33) hM dX8_leastOf_4 ⟨km_X8_118, ki_X8_next, ks_X8_next⟩ cw_X8_next rfl hc (by decide) hdd rfl rfl hrm hf kk
theorem cX8_leastOf_26 {G : gx} {d mc ms cc zz d2 mc2 ms2 : Nat} {L : List (Option Value)} {S : List Value} {h : ah} {Q Q2 : Option Value → ah → Prop} {k : Nat} {fs : List Value} {a0 : Value} (hM : Ct G mX8_next d2 mc2 ms2 (.ref (k + 2) :: [a0]) h Q2) (hc : h (k + 2) = (8, .inl fs)) (hdd : d2 < d ∧ d ≤ 9) (hrm : (S.map fun v => v.category).sum ≤ 8) (hf : cc + mc2 ≤ mc ∧ zz + ms2 ≤ ms) (kk : ∀ r h2, Q2 r h2 → V G mX8_leastOf (d, mc, ms, cc + mc2, zz + ms2) 29 L (r.toList ++ S) h2 Q) : V G mX8_leastOf (d, mc, ms, cc, zz) 26 L (a0 :: .ref (k + 2) :: S) h Q := V_callV (ci := 8) (T := TX8) (N := 33) hM dX8_leastOf_26 ⟨km_X8_118, ki_X8_next, ks_X8_next⟩ cw_X8_next rfl hc (by decide) hdd rfl rfl hrm hf kk
theorem tX8_turn_0 {G : gx} {b : bg} {h : ah} {Q : Option Value → ah → Prop} {x1 : Int32} {x2 : Int32} (q1 : V G mX8_turn b 2 [some (.ref 42), some (.int x1), some (.int x2)] [.int x1, .ref 42] h Q) : V G mX8_turn b 0 [some (.ref 42), some (.int x1), some (.int x2)] [] h Q := by
  refine V_aload_n dX8_turn_0 rfl rfl ?_
  refine V_iload_n dX8_turn_1 rfl rfl ?_
  exact V_sub (by exact (And.intro rfl (And.intro rfl (And.intro rfl True.intro)))) (q1)
theorem tX8_turn_28 {G : gx} {b : bg} {h : ah} {Q : Option Value → ah → Prop} {x1 : Int32} {x2 : Int32} {x3 : Int32} {x4 : Int32} {mk : Int32} {mn : Int32} {mall : Int32} {msum : Int32} {mexchanges : Int32} {mcycleMany : Int32} {mwhich : Int32} {mlatest : Int32} {mfirstFound : Int32} {mpartMany : Int32} {mlength : Int32} (g42 : h 42 = (8, .inl [.int mk, .int mn, .int mall, .ref 43, .ref 44, .ref 45, .ref 46, .int msum, .ref 47, .int mexchanges, .ref 48, .ref 49, .ref 50, .ref 51, .int mcycleMany, .ref 52, .int mwhich, .ref 53, .ref 54, .ref 55, .ref 56, .ref 57, .ref 58, .int mlatest, .int mfirstFound, .int mpartMany, .ref 59, .int mlength, .ref 60, .ref 61, .ref 62, .ref 63, .ref 64])) (q1 : ¬ mn = 0) (q2 : ((x2 - x2 / mn * mn) ≤ x4) → Q (some (.int x3)) h) (q3 : (¬ (x2 - x2 / mn * mn) ≤ x4) → V G mX8_turn b 41 [some (.ref 42), some (.int x1), some (.int x2), some (.int x3), some (.int x4)] [.int x3, .ref 42] h Q) : V G mX8_turn b 28 [some (.ref 42), some (.int x1), some (.int x2), some (.int x3), some (.int x4)] [] h Q := by
  refine V_iload dX8_turn_28 rfl ?_
  refine V_iload_n dX8_turn_30 rfl rfl ?_
  refine V_aload_n dX8_turn_31 rfl rfl ?_
  refine V_get (ci := 8) (j := 1) (C0 := RX8) (T := TX8) (N := 33) dX8_turn_32 rfl g42 (by decide) (by decide) kf_X8_96 rfl ?_
  refine V_irem dX8_turn_35 (q1) ?_
  refine V_icmp_ge (t := 51) dX8_turn_36 (by decide) (fun z1 => ?_) (fun z1 => ?_)
  ·
    refine V_iload_n dX8_turn_51 rfl rfl ?_
    exact V_iret dX8_turn_52 rfl (q2 z1)
  ·
    refine V_aload_n dX8_turn_39 rfl rfl ?_
    refine V_iload_n dX8_turn_40 rfl rfl ?_
    exact V_sub (by exact (And.intro rfl (And.intro rfl (And.intro rfl (And.intro rfl (And.intro rfl True.intro)))))) (q3 z1)
theorem tX8_turn_5 {G : gx} {b : bg} {h : ah} {Q : Option Value → ah → Prop} {x1 : Int32} {x2 : Int32} {s0 : Int32} (q1 : (s0 = (0 : Int32)) → Q (some (.int (-2 : Int32))) h) (q2 : (¬ s0 = (0 : Int32)) → V G mX8_turn b 14 [some (.ref 42), some (.int x1), some (.int x2)] [.long (1000 : Int64), .long (0 : Int64), .long (x2.toInt64)] h Q) : V G mX8_turn b 5 [some (.ref 42), some (.int x1), some (.int x2)] [.int s0] h Q := by
  refine V_if_eq (t := 20) dX8_turn_5 (by decide) (fun z1 => ?_) (fun z1 => ?_)
  ·
    refine V_bipush dX8_turn_20 bp_m2 ?_
    exact V_iret dX8_turn_22 rfl (q1 z1)
  ·
    refine V_iload_n dX8_turn_8 rfl rfl ?_
    refine V_i2l dX8_turn_9 ?_
    refine V_lconst dX8_turn_10 lc_0 ?_
    refine V_ldc2 dX8_turn_11 kk_X8_125 ?_
    exact V_sub (by exact (And.intro rfl (And.intro rfl (And.intro rfl True.intro)))) (q2 z1)
theorem tX8_turn_17 {G : gx} {b : bg} {h : ah} {Q : Option Value → ah → Prop} {x1 : Int32} {x2 : Int32} {s0 : Int32} (q1 : (¬ s0 = (0 : Int32)) → V G mX8_turn b 28 [some (.ref 42), some (.int x1), some (.int x2), some (.int x1), some (.int (0 : Int32))] [] h Q) (q2 : (s0 = (0 : Int32)) → Q (some (.int (-2 : Int32))) h) : V G mX8_turn b 17 [some (.ref 42), some (.int x1), some (.int x2)] [.int s0] h Q := by
  refine V_if_ne (t := 23) dX8_turn_17 (by decide) (fun z1 => ?_) (fun z1 => ?_)
  ·
    refine V_iload_n dX8_turn_23 rfl rfl ?_
    refine V_istore_n dX8_turn_24 rfl (Nat.le_of_ble_eq_true rfl) ?_
    refine V_iconst dX8_turn_25 ic_0 ?_
    refine V_istore dX8_turn_26 (Nat.le_of_ble_eq_true rfl) ?_
    exact V_sub (by exact (And.intro rfl (And.intro rfl (And.intro rfl (And.intro rfl (And.intro rfl True.intro)))))) (q1 z1)
  ·
    refine V_bipush dX8_turn_20 bp_m2 ?_
    exact V_iret dX8_turn_22 rfl (q2 z1)
theorem tX8_turn_44 {G : gx} {b : bg} {h : ah} {Q : Option Value → ah → Prop} {x1 : Int32} {x2 : Int32} {x3 : Int32} {x4 : Int32} {s0 : Int32} (q1 : V G mX8_turn b 28 [some (.ref 42), some (.int x1), some (.int x2), some (.int s0), some (.int (x4 + (1 : Int32)))] [] h Q) : V G mX8_turn b 44 [some (.ref 42), some (.int x1), some (.int x2), some (.int x3), some (.int x4)] [.int s0] h Q := by
  refine V_istore_n dX8_turn_44 rfl (Nat.le_of_ble_eq_true rfl) ?_
  refine V_inc dX8_turn_45 ic_1 rfl (Nat.le_of_ble_eq_true rfl) ?_
  refine V_goto (t := 28) dX8_turn_48 (by decide) ?_
  exact V_sub (by exact (And.intro rfl (And.intro rfl (And.intro rfl (And.intro rfl (And.intro rfl True.intro)))))) (q1)
theorem cX8_turn_2 {G : gx} {d mc ms cc zz d2 mc2 ms2 : Nat} {L : List (Option Value)} {S : List Value} {h : ah} {Q Q2 : Option Value → ah → Prop} {k : Nat} {fs : List Value} {a0 : Value} (hM : Ct G mX8_isWord d2 mc2 ms2 (.ref (k + 2) :: [a0]) h Q2) (hc : h (k + 2) = (8, .inl fs)) (hdd : d2 < d ∧ d ≤ 9) (hrm : (S.map fun v => v.category).sum ≤ 8) (hf : cc + mc2 ≤ mc ∧ zz + ms2 ≤ ms) (kk : ∀ r h2, Q2 r h2 → V G mX8_turn (d, mc, ms, cc + mc2, zz + ms2) 5 L (r.toList ++ S) h2 Q) : V G mX8_turn (d, mc, ms, cc, zz) 2 L (a0 :: .ref (k + 2) :: S) h Q := V_callV (ci := 8) (T := TX8) (N := 33) hM dX8_turn_2 ⟨km_X8_121, ki_X8_isWord, ks_X8_isWord⟩ cw_X8_isWord rfl hc (by decide) hdd rfl rfl hrm hf kk
theorem cX8_turn_14 {G : gx} {d mc ms cc zz d2 mc2 ms2 : Nat} {L : List (Option Value)} {S : List Value} {h : ah} {Q Q2 : Option Value → ah → Prop} {a0 a1 a2 : Value} (hM : Ct G mX8_in d2 mc2 ms2 [a0, a1, a2] h Q2) (hdd : d2 < d ∧ d ≤ 9) (hrm : (S.map fun v => v.category).sum ≤ 8) (hf : cc + mc2 ≤ mc ∧ zz + ms2 ≤ ms) (kk : ∀ r h2, Q2 r h2 → V G mX8_turn (d, mc, ms, cc + mc2, zz + ms2) 17 L (r.toList ++ S) h2 Q) : V G mX8_turn (d, mc, ms, cc, zz) 14 L (a2 :: a1 :: a0 :: S) h Q := V_callS hM dX8_turn_14 ⟨km_X8_86, kt_X8_in⟩ cw_X8_in hdd rfl rfl hrm hf kk
theorem cX8_turn_41 {G : gx} {d mc ms cc zz d2 mc2 ms2 : Nat} {L : List (Option Value)} {S : List Value} {h : ah} {Q Q2 : Option Value → ah → Prop} {k : Nat} {fs : List Value} {a0 : Value} (hM : Ct G mX8_next d2 mc2 ms2 (.ref (k + 2) :: [a0]) h Q2) (hc : h (k + 2) = (8, .inl fs)) (hdd : d2 < d ∧ d ≤ 9) (hrm : (S.map fun v => v.category).sum ≤ 8) (hf : cc + mc2 ≤ mc ∧ zz + ms2 ≤ ms) (kk : ∀ r h2, Q2 r h2 → V G mX8_turn (d, mc, ms, cc + mc2, zz + ms2) 44 L (r.toList ++ S) h2 Q) : V G mX8_turn (d, mc, ms, cc, zz) 41 L (a0 :: .ref (k + 2) :: S) h Q := V_callV (ci := 8) (T := TX8) (N := 33) hM dX8_turn_41 ⟨km_X8_118, ki_X8_next, ks_X8_next⟩ cw_X8_next rfl hc (by decide) hdd rfl rfl hrm hf kk
theorem tX8_least_0 {G : gx} {b : bg} {h : ah} {Q : Option Value → ah → Prop} {x1 : Int32} (q1 : V G mX8_least b 2 [some (.ref 42), some (.int x1)] [.int x1, .ref 42] h Q) : V G mX8_least b 0 [some (.ref 42), some (.int x1)] [] h Q := by
  refine V_aload_n dX8_least_0 rfl rfl ?_
  refine V_iload_n dX8_least_1 rfl rfl ?_
  exact V_sub (by exact (And.intro rfl (And.intro rfl True.intro))) (q1)
theorem tX8_least_5 {G : gx} {b : bg} {h : ah} {Q : Option Value → ah → Prop} {x1 : Int32} {s0 : Int32} {mk : Int32} {mn : Int32} {mall : Int32} {msum : Int32} {mexchanges : Int32} {mcycleMany : Int32} {mwhich : Int32} {mlatest : Int32} {mfirstFound : Int32} {mpartMany : Int32} {mlength : Int32} {mleasts : Nat → Int32} (g42 : h 42 = (8, .inl [.int mk, .int mn, .int mall, .ref 43, .ref 44, .ref 45, .ref 46, .int msum, .ref 47, .int mexchanges, .ref 48, .ref 49, .ref 50, .ref 51, .int mcycleMany, .ref 52, .int mwhich, .ref 53, .ref 54, .ref 55, .ref 56, .ref 57, .ref 58, .int mlatest, .int mfirstFound, .int mpartMany, .ref 59, .int mlength, .ref 60, .ref 61, .ref 62, .ref 63, .ref 64])) (g43 : h 43 = (0, .inr (20000, .inl mleasts))) (q1 : (s0 = (0 : Int32)) → Q (some (.int (-2 : Int32))) h) (q2 : (¬ s0 = (0 : Int32)) → vp_in x1 20000) (q3 : (¬ s0 = (0 : Int32)) → Q (some (.int (mleasts x1.toNatClampNeg))) h) : V G mX8_least b 5 [some (.ref 42), some (.int x1)] [.int s0] h Q := by
  refine V_if_eq (t := 17) dX8_least_5 (by decide) (fun z1 => ?_) (fun z1 => ?_)
  ·
    refine V_bipush dX8_least_17 bp_m2 ?_
    exact V_iret dX8_least_19 rfl (q1 z1)
  ·
    refine V_aload_n dX8_least_8 rfl rfl ?_
    refine V_get (ci := 8) (j := 3) (C0 := RX8) (T := TX8) (N := 33) dX8_least_9 rfl g42 (by decide) (by decide) kf_X8_7 rfl ?_
    refine V_iload_n dX8_least_12 rfl rfl ?_
    refine V_iald dX8_least_13 g43 (q2 z1) ?_
    refine V_goto (t := 19) dX8_least_14 (by decide) ?_
    exact V_iret dX8_least_19 rfl (q3 z1)
theorem cX8_least_2 {G : gx} {d mc ms cc zz d2 mc2 ms2 : Nat} {L : List (Option Value)} {S : List Value} {h : ah} {Q Q2 : Option Value → ah → Prop} {k : Nat} {fs : List Value} {a0 : Value} (hM : Ct G mX8_isWord d2 mc2 ms2 (.ref (k + 2) :: [a0]) h Q2) (hc : h (k + 2) = (8, .inl fs)) (hdd : d2 < d ∧ d ≤ 9) (hrm : (S.map fun v => v.category).sum ≤ 8) (hf : cc + mc2 ≤ mc ∧ zz + ms2 ≤ ms) (kk : ∀ r h2, Q2 r h2 → V G mX8_least (d, mc, ms, cc + mc2, zz + ms2) 5 L (r.toList ++ S) h2 Q) : V G mX8_least (d, mc, ms, cc, zz) 2 L (a0 :: .ref (k + 2) :: S) h Q := V_callV (ci := 8) (T := TX8) (N := 33) hM dX8_least_2 ⟨km_X8_121, ki_X8_isWord, ks_X8_isWord⟩ cw_X8_isWord rfl hc (by decide) hdd rfl rfl hrm hf kk
theorem tX8_steps_0 {G : gx} {b : bg} {h : ah} {Q : Option Value → ah → Prop} {x1 : Int32} (q1 : V G mX8_steps b 2 [some (.ref 42), some (.int x1)] [.int x1, .ref 42] h Q) : V G mX8_steps b 0 [some (.ref 42), some (.int x1)] [] h Q := by
  refine V_aload_n dX8_steps_0 rfl rfl ?_
  refine V_iload_n dX8_steps_1 rfl rfl ?_
  exact V_sub (by exact (And.intro rfl (And.intro rfl True.intro))) (q1)
theorem tX8_steps_15 {G : gx} {b : bg} {h : ah} {Q : Option Value → ah → Prop} {x1 : Int32} {x2 : Int32} {x3 : Int32} {mk : Int32} {mn : Int32} {mall : Int32} {msum : Int32} {mexchanges : Int32} {mcycleMany : Int32} {mwhich : Int32} {mlatest : Int32} {mfirstFound : Int32} {mpartMany : Int32} {mlength : Int32} {mleasts : Nat → Int32} (g42 : h 42 = (8, .inl [.int mk, .int mn, .int mall, .ref 43, .ref 44, .ref 45, .ref 46, .int msum, .ref 47, .int mexchanges, .ref 48, .ref 49, .ref 50, .ref 51, .int mcycleMany, .ref 52, .int mwhich, .ref 53, .ref 54, .ref 55, .ref 56, .ref 57, .ref 58, .int mlatest, .int mfirstFound, .int mpartMany, .ref 59, .int mlength, .ref 60, .ref 61, .ref 62, .ref 63, .ref 64])) (g43 : h 43 = (0, .inr (20000, .inl mleasts))) (q1 : vp_in x1 20000) (q2 : (x3 = (mleasts x1.toNatClampNeg)) → Q (some (.int x2)) h) (q3 : (¬ x3 = (mleasts x1.toNatClampNeg)) → V G mX8_steps b 27 [some (.ref 42), some (.int x1), some (.int x2), some (.int x3)] [.int x3, .ref 42] h Q) : V G mX8_steps b 15 [some (.ref 42), some (.int x1), some (.int x2), some (.int x3)] [] h Q := by
  refine V_iload_n dX8_steps_15 rfl rfl ?_
  refine V_aload_n dX8_steps_16 rfl rfl ?_
  refine V_get (ci := 8) (j := 3) (C0 := RX8) (T := TX8) (N := 33) dX8_steps_17 rfl g42 (by decide) (by decide) kf_X8_7 rfl ?_
  refine V_iload_n dX8_steps_20 rfl rfl ?_
  refine V_iald dX8_steps_21 g43 (q1) ?_
  refine V_icmp_eq (t := 37) dX8_steps_22 (by decide) (fun z1 => ?_) (fun z1 => ?_)
  ·
    refine V_iload_n dX8_steps_37 rfl rfl ?_
    exact V_iret dX8_steps_38 rfl (q2 z1)
  ·
    refine V_aload_n dX8_steps_25 rfl rfl ?_
    refine V_iload_n dX8_steps_26 rfl rfl ?_
    exact V_sub (by exact (And.intro rfl (And.intro rfl (And.intro rfl (And.intro rfl True.intro))))) (q3 z1)
theorem tX8_steps_5 {G : gx} {b : bg} {h : ah} {Q : Option Value → ah → Prop} {x1 : Int32} {s0 : Int32} (q1 : (¬ s0 = (0 : Int32)) → V G mX8_steps b 15 [some (.ref 42), some (.int x1), some (.int (0 : Int32)), some (.int x1)] [] h Q) (q2 : (s0 = (0 : Int32)) → Q (some (.int (-2 : Int32))) h) : V G mX8_steps b 5 [some (.ref 42), some (.int x1)] [.int s0] h Q := by
  refine V_if_ne (t := 11) dX8_steps_5 (by decide) (fun z1 => ?_) (fun z1 => ?_)
  ·
    refine V_iconst dX8_steps_11 ic_0 ?_
    refine V_istore_n dX8_steps_12 rfl (Nat.le_of_ble_eq_true rfl) ?_
    refine V_iload_n dX8_steps_13 rfl rfl ?_
    refine V_istore_n dX8_steps_14 rfl (Nat.le_of_ble_eq_true rfl) ?_
    exact V_sub (by exact (And.intro rfl (And.intro rfl (And.intro rfl (And.intro rfl True.intro))))) (q1 z1)
  ·
    refine V_bipush dX8_steps_8 bp_m2 ?_
    exact V_iret dX8_steps_10 rfl (q2 z1)
theorem tX8_steps_30 {G : gx} {b : bg} {h : ah} {Q : Option Value → ah → Prop} {x1 : Int32} {x2 : Int32} {x3 : Int32} {s0 : Int32} (q1 : V G mX8_steps b 15 [some (.ref 42), some (.int x1), some (.int (x2 + (1 : Int32))), some (.int s0)] [] h Q) : V G mX8_steps b 30 [some (.ref 42), some (.int x1), some (.int x2), some (.int x3)] [.int s0] h Q := by
  refine V_istore_n dX8_steps_30 rfl (Nat.le_of_ble_eq_true rfl) ?_
  refine V_inc dX8_steps_31 ic_1 rfl (Nat.le_of_ble_eq_true rfl) ?_
  refine V_goto (t := 15) dX8_steps_34 (by decide) ?_
  exact V_sub (by exact (And.intro rfl (And.intro rfl (And.intro rfl (And.intro rfl True.intro))))) (q1)
theorem cX8_steps_2 {G : gx} {d mc ms cc zz d2 mc2 ms2 : Nat} {L : List (Option Value)} {S : List Value} {h : ah} {Q Q2 : Option Value → ah → Prop} {k : Nat} {fs : List Value} {a0 : Value} (hM : Ct G mX8_isWord d2 mc2 ms2 (.ref (k + 2) :: [a0]) h Q2) (hc : h (k + 2) = (8, .inl fs)) (hdd : d2 < d ∧ d ≤ 9) (hrm : (S.map fun v => v.category).sum ≤ 8) (hf : cc + mc2 ≤ mc ∧ zz + ms2 ≤ ms) (kk : ∀ r h2, Q2 r h2 → V G mX8_steps (d, mc, ms, cc + mc2, zz + ms2) 5 L (r.toList ++ S) h2 Q) : V G mX8_steps (d, mc, ms, cc, zz) 2 L (a0 :: .ref (k + 2) :: S) h Q := V_callV (ci := 8) (T := TX8) (N := 33) hM dX8_steps_2 ⟨km_X8_121, ki_X8_isWord, ks_X8_isWord⟩ cw_X8_isWord rfl hc (by decide) hdd rfl rfl hrm hf kk
theorem cX8_steps_27 {G : gx} {d mc ms cc zz d2 mc2 ms2 : Nat} {L : List (Option Value)} {S : List Value} {h : ah} {Q Q2 : Option Value → ah → Prop} {k : Nat} {fs : List Value} {a0 : Value} (hM : Ct G mX8_next d2 mc2 ms2 (.ref (k + 2) :: [a0]) h Q2) (hc : h (k + 2) = (8, .inl fs)) (hdd : d2 < d ∧ d ≤ 9) (hrm : (S.map fun v => v.category).sum ≤ 8) (hf : cc + mc2 ≤ mc ∧ zz + ms2 ≤ ms) (kk : ∀ r h2, Q2 r h2 → V G mX8_steps (d, mc, ms, cc + mc2, zz + ms2) 30 L (r.toList ++ S) h2 Q) : V G mX8_steps (d, mc, ms, cc, zz) 27 L (a0 :: .ref (k + 2) :: S) h Q := V_callV (ci := 8) (T := TX8) (N := 33) hM dX8_steps_27 ⟨km_X8_118, ki_X8_next, ks_X8_next⟩ cw_X8_next rfl hc (by decide) hdd rfl rfl hrm hf kk
theorem tX8_sizeOf_0 {G : gx} {b : bg} {h : ah} {Q : Option Value → ah → Prop} {x1 : Int32} (q1 : V G mX8_sizeOf b 4 [some (.ref 42), some (.int x1), some (.int (1 : Int32))] [.int x1, .ref 42] h Q) : V G mX8_sizeOf b 0 [some (.ref 42), some (.int x1)] [] h Q := by
  refine V_iconst dX8_sizeOf_0 ic_1 ?_
  refine V_istore_n dX8_sizeOf_1 rfl (Nat.le_of_ble_eq_true rfl) ?_
  refine V_aload_n dX8_sizeOf_2 rfl rfl ?_
  refine V_iload_n dX8_sizeOf_3 rfl rfl ?_
  exact V_sub (by exact (And.intro rfl (And.intro rfl (And.intro rfl True.intro)))) (q1)
theorem tX8_sizeOf_8 {G : gx} {b : bg} {h : ah} {Q : Option Value → ah → Prop} {x1 : Int32} {x2 : Int32} {x3 : Int32} (q1 : (x3 = x1) → Q (some (.int x2)) h) (q2 : (¬ x3 = x1) → V G mX8_sizeOf b 18 [some (.ref 42), some (.int x1), some (.int (x2 + (1 : Int32))), some (.int x3)] [.int x3, .ref 42] h Q) : V G mX8_sizeOf b 8 [some (.ref 42), some (.int x1), some (.int x2), some (.int x3)] [] h Q := by
  refine V_iload_n dX8_sizeOf_8 rfl rfl ?_
  refine V_iload_n dX8_sizeOf_9 rfl rfl ?_
  refine V_icmp_eq (t := 25) dX8_sizeOf_10 (by decide) (fun z1 => ?_) (fun z1 => ?_)
  ·
    refine V_iload_n dX8_sizeOf_25 rfl rfl ?_
    exact V_iret dX8_sizeOf_26 rfl (q1 z1)
  ·
    refine V_inc dX8_sizeOf_13 ic_1 rfl (Nat.le_of_ble_eq_true rfl) ?_
    refine V_aload_n dX8_sizeOf_16 rfl rfl ?_
    refine V_iload_n dX8_sizeOf_17 rfl rfl ?_
    exact V_sub (by exact (And.intro rfl (And.intro rfl (And.intro rfl (And.intro rfl True.intro))))) (q2 z1)
theorem tX8_sizeOf_7 {G : gx} {b : bg} {h : ah} {Q : Option Value → ah → Prop} {x1 : Int32} {x2 : Int32} {s0 : Int32} (q1 : V G mX8_sizeOf b 8 [some (.ref 42), some (.int x1), some (.int x2), some (.int s0)] [] h Q) : V G mX8_sizeOf b 7 [some (.ref 42), some (.int x1), some (.int x2)] [.int s0] h Q := by
  refine V_istore_n dX8_sizeOf_7 rfl (Nat.le_of_ble_eq_true rfl) ?_
  exact V_sub (by exact (And.intro rfl (And.intro rfl (And.intro rfl (And.intro rfl True.intro))))) (q1)
theorem tX8_sizeOf_21 {G : gx} {b : bg} {h : ah} {Q : Option Value → ah → Prop} {x1 : Int32} {x2 : Int32} {x3 : Int32} {s0 : Int32} (q1 : V G mX8_sizeOf b 8 [some (.ref 42), some (.int x1), some (.int x2), some (.int s0)] [] h Q) : V G mX8_sizeOf b 21 [some (.ref 42), some (.int x1), some (.int x2), some (.int x3)] [.int s0] h Q := by
  refine V_istore_n dX8_sizeOf_21 rfl (Nat.le_of_ble_eq_true rfl) ?_
  refine V_goto (t := 8) dX8_sizeOf_22 (by decide) ?_
  exact V_sub (by exact (And.intro rfl (And.intro rfl (And.intro rfl (And.intro rfl True.intro))))) (q1)
theorem cX8_sizeOf_4 {G : gx} {d mc ms cc zz d2 mc2 ms2 : Nat} {L : List (Option Value)} {S : List Value} {h : ah} {Q Q2 : Option Value → ah → Prop} {k : Nat} {fs : List Value} {a0 : Value} (hM : Ct G mX8_next d2 mc2 ms2 (.ref (k + 2) :: [a0]) h Q2) (hc : h (k + 2) = (8, .inl fs)) (hdd : d2 < d ∧ d ≤ 9) (hrm : (S.map fun v => v.category).sum ≤ 8) (hf : cc + mc2 ≤ mc ∧ zz + ms2 ≤ ms) (kk : ∀ r h2, Q2 r h2 → V G mX8_sizeOf (d, mc, ms, cc + mc2, zz + ms2) 7 L (r.toList ++ S) h2 Q) : V G mX8_sizeOf (d, mc, ms, cc, zz) 4 L (a0 :: .ref (k + 2) :: S) h Q := V_callV (ci := 8) (T := TX8) (N := 33) hM dX8_sizeOf_4 ⟨km_X8_118, ki_X8_next, ks_X8_next⟩ cw_X8_next rfl hc (by decide) hdd rfl rfl hrm hf kk
theorem cX8_sizeOf_18 {G : gx} {d mc ms cc zz d2 mc2 ms2 : Nat} {L : List (Option Value)} {S : List Value} {h : ah} {Q Q2 : Option Value → ah → Prop} {k : Nat} {fs : List Value} {a0 : Value} (hM : Ct G mX8_next d2 mc2 ms2 (.ref (k + 2) :: [a0]) h Q2) (hc : h (k + 2) = (8, .inl fs)) (hdd : d2 < d ∧ d ≤ 9) (hrm : (S.map fun v => v.category).sum ≤ 8) (hf : cc + mc2 ≤ mc ∧ zz + ms2 ≤ ms) (kk : ∀ r h2, Q2 r h2 → V G mX8_sizeOf (d, mc, ms, cc + mc2, zz + ms2) 21 L (r.toList ++ S) h2 Q) : V G mX8_sizeOf (d, mc, ms, cc, zz) 18 L (a0 :: .ref (k + 2) :: S) h Q := V_callV (ci := 8) (T := TX8) (N := 33) hM dX8_sizeOf_18 ⟨km_X8_118, ki_X8_next, ks_X8_next⟩ cw_X8_next rfl hc (by decide) hdd rfl rfl hrm hf kk
theorem tX8_size_0 {G : gx} {b : bg} {h : ah} {Q : Option Value → ah → Prop} {x1 : Int32} (q1 : V G mX8_size b 2 [some (.ref 42), some (.int x1)] [.int x1, .ref 42] h Q) : V G mX8_size b 0 [some (.ref 42), some (.int x1)] [] h Q := by
  refine V_aload_n dX8_size_0 rfl rfl ?_
  refine V_iload_n dX8_size_1 rfl rfl ?_
  exact V_sub (by exact (And.intro rfl (And.intro rfl True.intro))) (q1)
theorem tX8_size_5 {G : gx} {b : bg} {h : ah} {Q : Option Value → ah → Prop} {x1 : Int32} {s0 : Int32} (q1 : (s0 = (0 : Int32)) → Q (some (.int (-2 : Int32))) h) (q2 : (¬ s0 = (0 : Int32)) → V G mX8_size b 10 [some (.ref 42), some (.int x1)] [.int x1, .ref 42] h Q) : V G mX8_size b 5 [some (.ref 42), some (.int x1)] [.int s0] h Q := by
  refine V_if_eq (t := 16) dX8_size_5 (by decide) (fun z1 => ?_) (fun z1 => ?_)
  ·
    refine V_bipush dX8_size_16 bp_m2 ?_
    exact V_iret dX8_size_18 rfl (q1 z1)
  ·
    refine V_aload_n dX8_size_8 rfl rfl ?_
    refine V_iload_n dX8_size_9 rfl rfl ?_
    exact V_sub (by exact (And.intro rfl (And.intro rfl True.intro))) (q2 z1)
theorem tX8_size_13 {G : gx} {b : bg} {h : ah} {Q : Option Value → ah → Prop} {x1 : Int32} {s0 : Int32} (q1 : Q (some (.int s0)) h) : V G mX8_size b 13 [some (.ref 42), some (.int x1)] [.int s0] h Q := by
  refine V_goto (t := 18) dX8_size_13 (by decide) ?_
  exact V_iret dX8_size_18 rfl (q1)
theorem cX8_size_2 {G : gx} {d mc ms cc zz d2 mc2 ms2 : Nat} {L : List (Option Value)} {S : List Value} {h : ah} {Q Q2 : Option Value → ah → Prop} {k : Nat} {fs : List Value} {a0 : Value} (hM : Ct G mX8_isWord d2 mc2 ms2 (.ref (k + 2) :: [a0]) h Q2) (hc : h (k + 2) = (8, .inl fs)) (hdd : d2 < d ∧ d ≤ 9) (hrm : (S.map fun v => v.category).sum ≤ 8) (hf : cc + mc2 ≤ mc ∧ zz + ms2 ≤ ms) (kk : ∀ r h2, Q2 r h2 → V G mX8_size (d, mc, ms, cc + mc2, zz + ms2) 5 L (r.toList ++ S) h2 Q) : V G mX8_size (d, mc, ms, cc, zz) 2 L (a0 :: .ref (k + 2) :: S) h Q := V_callV (ci := 8) (T := TX8) (N := 33) hM dX8_size_2 ⟨km_X8_121, ki_X8_isWord, ks_X8_isWord⟩ cw_X8_isWord rfl hc (by decide) hdd rfl rfl hrm hf kk
theorem cX8_size_10 {G : gx} {d mc ms cc zz d2 mc2 ms2 : Nat} {L : List (Option Value)} {S : List Value} {h : ah} {Q Q2 : Option Value → ah → Prop} {k : Nat} {fs : List Value} {a0 : Value} (hM : Ct G mX8_sizeOf d2 mc2 ms2 (.ref (k + 2) :: [a0]) h Q2) (hc : h (k + 2) = (8, .inl fs)) (hdd : d2 < d ∧ d ≤ 9) (hrm : (S.map fun v => v.category).sum ≤ 8) (hf : cc + mc2 ≤ mc ∧ zz + ms2 ≤ ms) (kk : ∀ r h2, Q2 r h2 → V G mX8_size (d, mc, ms, cc + mc2, zz + ms2) 13 L (r.toList ++ S) h2 Q) : V G mX8_size (d, mc, ms, cc, zz) 10 L (a0 :: .ref (k + 2) :: S) h Q := V_callV (ci := 8) (T := TX8) (N := 33) hM dX8_size_10 ⟨km_X8_127, ki_X8_sizeOf, ks_X8_sizeOf⟩ cw_X8_sizeOf rfl hc (by decide) hdd rfl rfl hrm hf kk
theorem tX8_even_0 {G : gx} {b : bg} {h : ah} {Q : Option Value → ah → Prop} {x1 : Int32} (q1 : V G mX8_even b 2 [some (.ref 42), some (.int x1)] [.int x1, .ref 42] h Q) : V G mX8_even b 0 [some (.ref 42), some (.int x1)] [] h Q := by
  refine V_aload_n dX8_even_0 rfl rfl ?_
  refine V_iload_n dX8_even_1 rfl rfl ?_
  exact V_sub (by exact (And.intro rfl (And.intro rfl True.intro))) (q1)
theorem tX8_even_23 {G : gx} {b : bg} {h : ah} {Q : Option Value → ah → Prop} {x1 : Int32} {x2 : Int32} {x3 : Int32} {x4 : Int32} {mk : Int32} {mn : Int32} {mall : Int32} {msum : Int32} {mexchanges : Int32} {mcycleMany : Int32} {mwhich : Int32} {mlatest : Int32} {mfirstFound : Int32} {mpartMany : Int32} {mlength : Int32} {mleasts : Nat → Int32} (g42 : h 42 = (8, .inl [.int mk, .int mn, .int mall, .ref 43, .ref 44, .ref 45, .ref 46, .int msum, .ref 47, .int mexchanges, .ref 48, .ref 49, .ref 50, .ref 51, .int mcycleMany, .ref 52, .int mwhich, .ref 53, .ref 54, .ref 55, .ref 56, .ref 57, .ref 58, .int mlatest, .int mfirstFound, .int mpartMany, .ref 59, .int mlength, .ref 60, .ref 61, .ref 62, .ref 63, .ref 64])) (g43 : h 43 = (0, .inr (20000, .inl mleasts))) (q1 : (mn ≤ x4) → vp_in x3 20000) (q2 : (mn ≤ x4) → vp_in x1 20000) (q3 : (mn ≤ x4) → (¬ (mleasts x3.toNatClampNeg) = (mleasts x1.toNatClampNeg)) → Q (some (.int (0 : Int32))) h) (q4 : (mn ≤ x4) → ((mleasts x3.toNatClampNeg) = (mleasts x1.toNatClampNeg)) → Q (some (.int (1 : Int32))) h) (q5 : (¬ mn ≤ x4) → ¬ mk = 0) (q6 : (¬ mn ≤ x4) → ¬ mk = 0) (q7 : (¬ mn ≤ x4) → V G mX8_even b 23 [some (.ref 42), some (.int x1), some (.int (x2 / mk)), some (.int ((x3 * mk) + (x2 - x2 / mk * mk))), some (.int (x4 + (1 : Int32)))] [] h Q) : V G mX8_even b 23 [some (.ref 42), some (.int x1), some (.int x2), some (.int x3), some (.int x4)] [] h Q := by
  refine V_iload dX8_even_23 rfl ?_
  refine V_aload_n dX8_even_25 rfl rfl ?_
  refine V_get (ci := 8) (j := 1) (C0 := RX8) (T := TX8) (N := 33) dX8_even_26 rfl g42 (by decide) (by decide) kf_X8_96 rfl ?_
  refine V_icmp_ge (t := 59) dX8_even_29 (by decide) (fun z1 => ?_) (fun z1 => ?_)
  ·
    refine V_aload_n dX8_even_59 rfl rfl ?_
    refine V_get (ci := 8) (j := 3) (C0 := RX8) (T := TX8) (N := 33) dX8_even_60 rfl g42 (by decide) (by decide) kf_X8_7 rfl ?_
    refine V_iload_n dX8_even_63 rfl rfl ?_
    refine V_iald dX8_even_64 g43 (q1 z1) ?_
    refine V_aload_n dX8_even_65 rfl rfl ?_
    refine V_get (ci := 8) (j := 3) (C0 := RX8) (T := TX8) (N := 33) dX8_even_66 rfl g42 (by decide) (by decide) kf_X8_7 rfl ?_
    refine V_iload_n dX8_even_69 rfl rfl ?_
    refine V_iald dX8_even_70 g43 (q2 z1) ?_
    refine V_icmp_ne (t := 78) dX8_even_71 (by decide) (fun z2 => ?_) (fun z2 => ?_)
    ·
      refine V_iconst dX8_even_78 ic_0 ?_
      exact V_iret dX8_even_79 rfl (q3 z1 z2)
    ·
      refine V_iconst dX8_even_74 ic_1 ?_
      refine V_goto (t := 79) dX8_even_75 (by decide) ?_
      exact V_iret dX8_even_79 rfl (q4 z1 z2)
  ·
    refine V_iload_n dX8_even_32 rfl rfl ?_
    refine V_aload_n dX8_even_33 rfl rfl ?_
    refine V_get (ci := 8) (j := 0) (C0 := RX8) (T := TX8) (N := 33) dX8_even_34 rfl g42 (by decide) (by decide) kf_X8_92 rfl ?_
    refine V_imul dX8_even_37 ?_
    refine V_iload_n dX8_even_38 rfl rfl ?_
    refine V_aload_n dX8_even_39 rfl rfl ?_
    refine V_get (ci := 8) (j := 0) (C0 := RX8) (T := TX8) (N := 33) dX8_even_40 rfl g42 (by decide) (by decide) kf_X8_92 rfl ?_
    refine V_irem dX8_even_43 (q5 z1) ?_
    refine V_iadd dX8_even_44 ?_
    refine V_istore_n dX8_even_45 rfl (Nat.le_of_ble_eq_true rfl) ?_
    refine V_iload_n dX8_even_46 rfl rfl ?_
    refine V_aload_n dX8_even_47 rfl rfl ?_
    refine V_get (ci := 8) (j := 0) (C0 := RX8) (T := TX8) (N := 33) dX8_even_48 rfl g42 (by decide) (by decide) kf_X8_92 rfl ?_
    refine V_idiv dX8_even_51 (q6 z1) ?_
    refine V_istore_n dX8_even_52 rfl (Nat.le_of_ble_eq_true rfl) ?_
    refine V_inc dX8_even_53 ic_1 rfl (Nat.le_of_ble_eq_true rfl) ?_
    refine V_goto (t := 23) dX8_even_56 (by decide) ?_
    exact V_sub (by exact (And.intro rfl (And.intro rfl (And.intro rfl (And.intro rfl (And.intro rfl True.intro)))))) (q7 z1)
theorem tX8_even_5 {G : gx} {b : bg} {h : ah} {Q : Option Value → ah → Prop} {x1 : Int32} {s0 : Int32} {mk : Int32} {mn : Int32} {mall : Int32} {msum : Int32} {mexchanges : Int32} {mcycleMany : Int32} {mwhich : Int32} {mlatest : Int32} {mfirstFound : Int32} {mpartMany : Int32} {mlength : Int32} {mleasts : Nat → Int32} (g42 : h 42 = (8, .inl [.int mk, .int mn, .int mall, .ref 43, .ref 44, .ref 45, .ref 46, .int msum, .ref 47, .int mexchanges, .ref 48, .ref 49, .ref 50, .ref 51, .int mcycleMany, .ref 52, .int mwhich, .ref 53, .ref 54, .ref 55, .ref 56, .ref 57, .ref 58, .int mlatest, .int mfirstFound, .int mpartMany, .ref 59, .int mlength, .ref 60, .ref 61, .ref 62, .ref 63, .ref 64])) (g43 : h 43 = (0, .inr (20000, .inl mleasts))) (q1 : (¬ s0 = (0 : Int32)) → vp_in x1 20000) (q2 : (¬ s0 = (0 : Int32)) → V G mX8_even b 23 [some (.ref 42), some (.int x1), some (.int (mleasts x1.toNatClampNeg)), some (.int (0 : Int32)), some (.int (0 : Int32))] [] h Q) (q3 : (s0 = (0 : Int32)) → Q (some (.int (-2 : Int32))) h) : V G mX8_even b 5 [some (.ref 42), some (.int x1)] [.int s0] h Q := by
  refine V_if_ne (t := 11) dX8_even_5 (by decide) (fun z1 => ?_) (fun z1 => ?_)
  ·
    refine V_aload_n dX8_even_11 rfl rfl ?_
    refine V_get (ci := 8) (j := 3) (C0 := RX8) (T := TX8) (N := 33) dX8_even_12 rfl g42 (by decide) (by decide) kf_X8_7 rfl ?_
    refine V_iload_n dX8_even_15 rfl rfl ?_
    refine V_iald dX8_even_16 g43 (q1 z1) ?_
    refine V_istore_n dX8_even_17 rfl (Nat.le_of_ble_eq_true rfl) ?_
    refine V_iconst dX8_even_18 ic_0 ?_
    refine V_istore_n dX8_even_19 rfl (Nat.le_of_ble_eq_true rfl) ?_
    refine V_iconst dX8_even_20 ic_0 ?_
    refine V_istore dX8_even_21 (Nat.le_of_ble_eq_true rfl) ?_
    exact V_sub (by exact (And.intro rfl (And.intro rfl (And.intro rfl (And.intro rfl (And.intro rfl True.intro)))))) (q2 z1)
  ·
    refine V_bipush dX8_even_8 bp_m2 ?_
    exact V_iret dX8_even_10 rfl (q3 z1)
theorem cX8_even_2 {G : gx} {d mc ms cc zz d2 mc2 ms2 : Nat} {L : List (Option Value)} {S : List Value} {h : ah} {Q Q2 : Option Value → ah → Prop} {k : Nat} {fs : List Value} {a0 : Value} (hM : Ct G mX8_isWord d2 mc2 ms2 (.ref (k + 2) :: [a0]) h Q2) (hc : h (k + 2) = (8, .inl fs)) (hdd : d2 < d ∧ d ≤ 9) (hrm : (S.map fun v => v.category).sum ≤ 8) (hf : cc + mc2 ≤ mc ∧ zz + ms2 ≤ ms) (kk : ∀ r h2, Q2 r h2 → V G mX8_even (d, mc, ms, cc + mc2, zz + ms2) 5 L (r.toList ++ S) h2 Q) : V G mX8_even (d, mc, ms, cc, zz) 2 L (a0 :: .ref (k + 2) :: S) h Q := V_callV (ci := 8) (T := TX8) (N := 33) hM dX8_even_2 ⟨km_X8_121, ki_X8_isWord, ks_X8_isWord⟩ cw_X8_isWord rfl hc (by decide) hdd rfl rfl hrm hf kk
theorem tX8_rings_0 {G : gx} {b : bg} {h : ah} {Q : Option Value → ah → Prop} (q1 : V G mX8_rings b 4 [some (.ref 42), some (.int (0 : Int32)), some (.int (0 : Int32))] [] h Q) : V G mX8_rings b 0 [some (.ref 42)] [] h Q := by
  refine V_iconst dX8_rings_0 ic_0 ?_
  refine V_istore_n dX8_rings_1 rfl (Nat.le_of_ble_eq_true rfl) ?_
  refine V_iconst dX8_rings_2 ic_0 ?_
  refine V_istore_n dX8_rings_3 rfl (Nat.le_of_ble_eq_true rfl) ?_
  exact V_sub (by exact (And.intro rfl (And.intro rfl (And.intro rfl True.intro)))) (q1)
theorem tX8_rings_4 {G : gx} {b : bg} {h : ah} {Q : Option Value → ah → Prop} {x1 : Int32} {x2 : Int32} {mk : Int32} {mn : Int32} {mall : Int32} {msum : Int32} {mexchanges : Int32} {mcycleMany : Int32} {mwhich : Int32} {mlatest : Int32} {mfirstFound : Int32} {mpartMany : Int32} {mlength : Int32} {mleasts : Nat → Int32} (g42 : h 42 = (8, .inl [.int mk, .int mn, .int mall, .ref 43, .ref 44, .ref 45, .ref 46, .int msum, .ref 47, .int mexchanges, .ref 48, .ref 49, .ref 50, .ref 51, .int mcycleMany, .ref 52, .int mwhich, .ref 53, .ref 54, .ref 55, .ref 56, .ref 57, .ref 58, .int mlatest, .int mfirstFound, .int mpartMany, .ref 59, .int mlength, .ref 60, .ref 61, .ref 62, .ref 63, .ref 64])) (g43 : h 43 = (0, .inr (20000, .inl mleasts))) (q1 : (mall ≤ x2) → Q (some (.int x1)) h) (q2 : (¬ mall ≤ x2) → vp_in x2 20000) (q3 : (¬ mall ≤ x2) → (¬ (mleasts x2.toNatClampNeg) = x2) → V G mX8_rings b 4 [some (.ref 42), some (.int (x1 + (0 : Int32))), some (.int (x2 + (1 : Int32)))] [] h Q) (q4 : (¬ mall ≤ x2) → ((mleasts x2.toNatClampNeg) = x2) → V G mX8_rings b 4 [some (.ref 42), some (.int (x1 + (1 : Int32))), some (.int (x2 + (1 : Int32)))] [] h Q) : V G mX8_rings b 4 [some (.ref 42), some (.int x1), some (.int x2)] [] h Q := by
  refine V_iload_n dX8_rings_4 rfl rfl ?_
  refine V_aload_n dX8_rings_5 rfl rfl ?_
  refine V_get (ci := 8) (j := 2) (C0 := RX8) (T := TX8) (N := 33) dX8_rings_6 rfl g42 (by decide) (by decide) kf_X8_99 rfl ?_
  refine V_icmp_ge (t := 36) dX8_rings_9 (by decide) (fun z1 => ?_) (fun z1 => ?_)
  ·
    refine V_iload_n dX8_rings_36 rfl rfl ?_
    exact V_iret dX8_rings_37 rfl (q1 z1)
  ·
    refine V_iload_n dX8_rings_12 rfl rfl ?_
    refine V_aload_n dX8_rings_13 rfl rfl ?_
    refine V_get (ci := 8) (j := 3) (C0 := RX8) (T := TX8) (N := 33) dX8_rings_14 rfl g42 (by decide) (by decide) kf_X8_7 rfl ?_
    refine V_iload_n dX8_rings_17 rfl rfl ?_
    refine V_iald dX8_rings_18 g43 (q2 z1) ?_
    refine V_iload_n dX8_rings_19 rfl rfl ?_
    refine V_icmp_ne (t := 27) dX8_rings_20 (by decide) (fun z2 => ?_) (fun z2 => ?_)
    ·
      refine V_iconst dX8_rings_27 ic_0 ?_
      refine V_iadd dX8_rings_28 ?_
      refine V_istore_n dX8_rings_29 rfl (Nat.le_of_ble_eq_true rfl) ?_
      refine V_inc dX8_rings_30 ic_1 rfl (Nat.le_of_ble_eq_true rfl) ?_
      refine V_goto (t := 4) dX8_rings_33 (by decide) ?_
      exact V_sub (by exact (And.intro rfl (And.intro rfl (And.intro rfl True.intro)))) (q3 z1 z2)
    ·
      refine V_iconst dX8_rings_23 ic_1 ?_
      refine V_goto (t := 28) dX8_rings_24 (by decide) ?_
      refine V_iadd dX8_rings_28 ?_
      refine V_istore_n dX8_rings_29 rfl (Nat.le_of_ble_eq_true rfl) ?_
      refine V_inc dX8_rings_30 ic_1 rfl (Nat.le_of_ble_eq_true rfl) ?_
      refine V_goto (t := 4) dX8_rings_33 (by decide) ?_
      exact V_sub (by exact (And.intro rfl (And.intro rfl (And.intro rfl True.intro)))) (q4 z1 z2)
theorem tX8_ringOf_0 {G : gx} {b : bg} {h : ah} {Q : Option Value → ah → Prop} {x1 : Int32} (q1 : V G mX8_ringOf b 2 [some (.ref 42), some (.int x1)] [.int x1, .ref 42] h Q) : V G mX8_ringOf b 0 [some (.ref 42), some (.int x1)] [] h Q := by
  refine V_aload_n dX8_ringOf_0 rfl rfl ?_
  refine V_iload_n dX8_ringOf_1 rfl rfl ?_
  exact V_sub (by exact (And.intro rfl (And.intro rfl True.intro))) (q1)
theorem tX8_ringOf_15 {G : gx} {b : bg} {h : ah} {Q : Option Value → ah → Prop} {x1 : Int32} {x2 : Int32} {x3 : Int32} {mk : Int32} {mn : Int32} {mall : Int32} {msum : Int32} {mexchanges : Int32} {mcycleMany : Int32} {mwhich : Int32} {mlatest : Int32} {mfirstFound : Int32} {mpartMany : Int32} {mlength : Int32} {mleasts : Nat → Int32} (g42 : h 42 = (8, .inl [.int mk, .int mn, .int mall, .ref 43, .ref 44, .ref 45, .ref 46, .int msum, .ref 47, .int mexchanges, .ref 48, .ref 49, .ref 50, .ref 51, .int mcycleMany, .ref 52, .int mwhich, .ref 53, .ref 54, .ref 55, .ref 56, .ref 57, .ref 58, .int mlatest, .int mfirstFound, .int mpartMany, .ref 59, .int mlength, .ref 60, .ref 61, .ref 62, .ref 63, .ref 64])) (g43 : h 43 = (0, .inr (20000, .inl mleasts))) (q1 : vp_in x1 20000) (q2 : ((mleasts x1.toNatClampNeg) ≤ x3) → Q (some (.int x2)) h) (q3 : (¬ (mleasts x1.toNatClampNeg) ≤ x3) → vp_in x3 20000) (q4 : (¬ (mleasts x1.toNatClampNeg) ≤ x3) → (¬ (mleasts x3.toNatClampNeg) = x3) → V G mX8_ringOf b 15 [some (.ref 42), some (.int x1), some (.int (x2 + (0 : Int32))), some (.int (x3 + (1 : Int32)))] [] h Q) (q5 : (¬ (mleasts x1.toNatClampNeg) ≤ x3) → ((mleasts x3.toNatClampNeg) = x3) → V G mX8_ringOf b 15 [some (.ref 42), some (.int x1), some (.int (x2 + (1 : Int32))), some (.int (x3 + (1 : Int32)))] [] h Q) : V G mX8_ringOf b 15 [some (.ref 42), some (.int x1), some (.int x2), some (.int x3)] [] h Q := by
  refine V_iload_n dX8_ringOf_15 rfl rfl ?_
  refine V_aload_n dX8_ringOf_16 rfl rfl ?_
  refine V_get (ci := 8) (j := 3) (C0 := RX8) (T := TX8) (N := 33) dX8_ringOf_17 rfl g42 (by decide) (by decide) kf_X8_7 rfl ?_
  refine V_iload_n dX8_ringOf_20 rfl rfl ?_
  refine V_iald dX8_ringOf_21 g43 (q1) ?_
  refine V_icmp_ge (t := 49) dX8_ringOf_22 (by decide) (fun z1 => ?_) (fun z1 => ?_)
  ·
    refine V_iload_n dX8_ringOf_49 rfl rfl ?_
    exact V_iret dX8_ringOf_50 rfl (q2 z1)
  ·
    refine V_iload_n dX8_ringOf_25 rfl rfl ?_
    refine V_aload_n dX8_ringOf_26 rfl rfl ?_
    refine V_get (ci := 8) (j := 3) (C0 := RX8) (T := TX8) (N := 33) dX8_ringOf_27 rfl g42 (by decide) (by decide) kf_X8_7 rfl ?_
    refine V_iload_n dX8_ringOf_30 rfl rfl ?_
    refine V_iald dX8_ringOf_31 g43 (q3 z1) ?_
    refine V_iload_n dX8_ringOf_32 rfl rfl ?_
    refine V_icmp_ne (t := 40) dX8_ringOf_33 (by decide) (fun z2 => ?_) (fun z2 => ?_)
    ·
      refine V_iconst dX8_ringOf_40 ic_0 ?_
      refine V_iadd dX8_ringOf_41 ?_
      refine V_istore_n dX8_ringOf_42 rfl (Nat.le_of_ble_eq_true rfl) ?_
      refine V_inc dX8_ringOf_43 ic_1 rfl (Nat.le_of_ble_eq_true rfl) ?_
      refine V_goto (t := 15) dX8_ringOf_46 (by decide) ?_
      exact V_sub (by exact (And.intro rfl (And.intro rfl (And.intro rfl (And.intro rfl True.intro))))) (q4 z1 z2)
    ·
      refine V_iconst dX8_ringOf_36 ic_1 ?_
      refine V_goto (t := 41) dX8_ringOf_37 (by decide) ?_
      refine V_iadd dX8_ringOf_41 ?_
      refine V_istore_n dX8_ringOf_42 rfl (Nat.le_of_ble_eq_true rfl) ?_
      refine V_inc dX8_ringOf_43 ic_1 rfl (Nat.le_of_ble_eq_true rfl) ?_
      refine V_goto (t := 15) dX8_ringOf_46 (by decide) ?_
      exact V_sub (by exact (And.intro rfl (And.intro rfl (And.intro rfl (And.intro rfl True.intro))))) (q5 z1 z2)
theorem tX8_ringOf_5 {G : gx} {b : bg} {h : ah} {Q : Option Value → ah → Prop} {x1 : Int32} {s0 : Int32} (q1 : (¬ s0 = (0 : Int32)) → V G mX8_ringOf b 15 [some (.ref 42), some (.int x1), some (.int (0 : Int32)), some (.int (0 : Int32))] [] h Q) (q2 : (s0 = (0 : Int32)) → Q (some (.int (-2 : Int32))) h) : V G mX8_ringOf b 5 [some (.ref 42), some (.int x1)] [.int s0] h Q := by
  refine V_if_ne (t := 11) dX8_ringOf_5 (by decide) (fun z1 => ?_) (fun z1 => ?_)
  ·
    refine V_iconst dX8_ringOf_11 ic_0 ?_
    refine V_istore_n dX8_ringOf_12 rfl (Nat.le_of_ble_eq_true rfl) ?_
    refine V_iconst dX8_ringOf_13 ic_0 ?_
    refine V_istore_n dX8_ringOf_14 rfl (Nat.le_of_ble_eq_true rfl) ?_
    exact V_sub (by exact (And.intro rfl (And.intro rfl (And.intro rfl (And.intro rfl True.intro))))) (q1 z1)
  ·
    refine V_bipush dX8_ringOf_8 bp_m2 ?_
    exact V_iret dX8_ringOf_10 rfl (q2 z1)
theorem cX8_ringOf_2 {G : gx} {d mc ms cc zz d2 mc2 ms2 : Nat} {L : List (Option Value)} {S : List Value} {h : ah} {Q Q2 : Option Value → ah → Prop} {k : Nat} {fs : List Value} {a0 : Value} (hM : Ct G mX8_isWord d2 mc2 ms2 (.ref (k + 2) :: [a0]) h Q2) (hc : h (k + 2) = (8, .inl fs)) (hdd : d2 < d ∧ d ≤ 9) (hrm : (S.map fun v => v.category).sum ≤ 8) (hf : cc + mc2 ≤ mc ∧ zz + ms2 ≤ ms) (kk : ∀ r h2, Q2 r h2 → V G mX8_ringOf (d, mc, ms, cc + mc2, zz + ms2) 5 L (r.toList ++ S) h2 Q) : V G mX8_ringOf (d, mc, ms, cc, zz) 2 L (a0 :: .ref (k + 2) :: S) h Q := V_callV (ci := 8) (T := TX8) (N := 33) hM dX8_ringOf_2 ⟨km_X8_121, ki_X8_isWord, ks_X8_isWord⟩ cw_X8_isWord rfl hc (by decide) hdd rfl rfl hrm hf kk
theorem tX8_ring_0 {G : gx} {b : bg} {h : ah} {Q : Option Value → ah → Prop} {x1 : Int32} (q1 : V G mX8_ring b 4 [some (.ref 42), some (.int x1), some (.int x1), some (.int (0 : Int32))] [] h Q) : V G mX8_ring b 0 [some (.ref 42), some (.int x1)] [] h Q := by
  refine V_iload_n dX8_ring_0 rfl rfl ?_
  refine V_istore_n dX8_ring_1 rfl (Nat.le_of_ble_eq_true rfl) ?_
  refine V_iconst dX8_ring_2 ic_0 ?_
  refine V_istore_n dX8_ring_3 rfl (Nat.le_of_ble_eq_true rfl) ?_
  exact V_sub (by exact (And.intro rfl (And.intro rfl (And.intro rfl (And.intro rfl True.intro))))) (q1)
theorem tX8_ring_4 {G : gx} {b : bg} {h : ah} {Q : Option Value → ah → Prop} {x1 : Int32} {x2 : Int32} {x3 : Int32} {mk : Int32} {mn : Int32} {mall : Int32} {msum : Int32} {mexchanges : Int32} {mcycleMany : Int32} {mwhich : Int32} {mlatest : Int32} {mfirstFound : Int32} {mpartMany : Int32} {mlength : Int32} {mleasts : Nat → Int32} (g42 : h 42 = (8, .inl [.int mk, .int mn, .int mall, .ref 43, .ref 44, .ref 45, .ref 46, .int msum, .ref 47, .int mexchanges, .ref 48, .ref 49, .ref 50, .ref 51, .int mcycleMany, .ref 52, .int mwhich, .ref 53, .ref 54, .ref 55, .ref 56, .ref 57, .ref 58, .int mlatest, .int mfirstFound, .int mpartMany, .ref 59, .int mlength, .ref 60, .ref 61, .ref 62, .ref 63, .ref 64])) (g43 : h 43 = (0, .inr (20000, .inl mleasts))) (q1 : (mall ≤ x3) → Q (some (.int (-2 : Int32))) h) (q2 : (¬ mall ≤ x3) → (x1 < (0 : Int32)) → Q (some (.int (-2 : Int32))) h) (q3 : (¬ mall ≤ x3) → (¬ x1 < (0 : Int32)) → vp_in x3 20000) (q4 : (¬ mall ≤ x3) → (¬ x1 < (0 : Int32)) → (¬ (mleasts x3.toNatClampNeg) = x3) → V G mX8_ring b 4 [some (.ref 42), some (.int x1), some (.int x2), some (.int (x3 + (1 : Int32)))] [] h Q) (q5 : (¬ mall ≤ x3) → (¬ x1 < (0 : Int32)) → ((mleasts x3.toNatClampNeg) = x3) → (¬ x2 = (0 : Int32)) → V G mX8_ring b 4 [some (.ref 42), some (.int x1), some (.int (x2 + (-1 : Int32))), some (.int (x3 + (1 : Int32)))] [] h Q) (q6 : (¬ mall ≤ x3) → (¬ x1 < (0 : Int32)) → ((mleasts x3.toNatClampNeg) = x3) → (x2 = (0 : Int32)) → Q (some (.int x3)) h) : V G mX8_ring b 4 [some (.ref 42), some (.int x1), some (.int x2), some (.int x3)] [] h Q := by
  refine V_iload_n dX8_ring_4 rfl rfl ?_
  refine V_aload_n dX8_ring_5 rfl rfl ?_
  refine V_get (ci := 8) (j := 2) (C0 := RX8) (T := TX8) (N := 33) dX8_ring_6 rfl g42 (by decide) (by decide) kf_X8_99 rfl ?_
  refine V_icmp_ge (t := 41) dX8_ring_9 (by decide) (fun z1 => ?_) (fun z1 => ?_)
  ·
    refine V_bipush dX8_ring_41 bp_m2 ?_
    exact V_iret dX8_ring_43 rfl (q1 z1)
  ·
    refine V_iload_n dX8_ring_12 rfl rfl ?_
    refine V_if_lt (t := 41) dX8_ring_13 (by decide) (fun z2 => ?_) (fun z2 => ?_)
    ·
      refine V_bipush dX8_ring_41 bp_m2 ?_
      exact V_iret dX8_ring_43 rfl (q2 z1 z2)
    ·
      refine V_aload_n dX8_ring_16 rfl rfl ?_
      refine V_get (ci := 8) (j := 3) (C0 := RX8) (T := TX8) (N := 33) dX8_ring_17 rfl g42 (by decide) (by decide) kf_X8_7 rfl ?_
      refine V_iload_n dX8_ring_20 rfl rfl ?_
      refine V_iald dX8_ring_21 g43 (q3 z1 z2) ?_
      refine V_iload_n dX8_ring_22 rfl rfl ?_
      refine V_icmp_ne (t := 35) dX8_ring_23 (by decide) (fun z3 => ?_) (fun z3 => ?_)
      ·
        refine V_inc dX8_ring_35 ic_1 rfl (Nat.le_of_ble_eq_true rfl) ?_
        refine V_goto (t := 4) dX8_ring_38 (by decide) ?_
        exact V_sub (by exact (And.intro rfl (And.intro rfl (And.intro rfl (And.intro rfl True.intro))))) (q4 z1 z2 z3)
      ·
        refine V_iload_n dX8_ring_26 rfl rfl ?_
        refine V_if_ne (t := 32) dX8_ring_27 (by decide) (fun z4 => ?_) (fun z4 => ?_)
        ·
          refine V_inc dX8_ring_32 ic_m1 rfl (Nat.le_of_ble_eq_true rfl) ?_
          refine V_inc dX8_ring_35 ic_1 rfl (Nat.le_of_ble_eq_true rfl) ?_
          refine V_goto (t := 4) dX8_ring_38 (by decide) ?_
          exact V_sub (by exact (And.intro rfl (And.intro rfl (And.intro rfl (And.intro rfl True.intro))))) (q5 z1 z2 z3 z4)
        ·
          refine V_iload_n dX8_ring_30 rfl rfl ?_
          exact V_iret dX8_ring_31 rfl (q6 z1 z2 z3 z4)
theorem tX8_below_0 {G : gx} {b : bg} {h : ah} {Q : Option Value → ah → Prop} {x1 : Int32} (q1 : V G mX8_below b 2 [some (.ref 42), some (.int x1)] [.int x1, .ref 42] h Q) : V G mX8_below b 0 [some (.ref 42), some (.int x1)] [] h Q := by
  refine V_aload_n dX8_below_0 rfl rfl ?_
  refine V_iload_n dX8_below_1 rfl rfl ?_
  exact V_sub (by exact (And.intro rfl (And.intro rfl True.intro))) (q1)
theorem tX8_below_15 {G : gx} {b : bg} {h : ah} {Q : Option Value → ah → Prop} {x1 : Int32} {x2 : Int32} {x3 : Int32} {mk : Int32} {mn : Int32} {mall : Int32} {msum : Int32} {mexchanges : Int32} {mcycleMany : Int32} {mwhich : Int32} {mlatest : Int32} {mfirstFound : Int32} {mpartMany : Int32} {mlength : Int32} {mleasts : Nat → Int32} (g42 : h 42 = (8, .inl [.int mk, .int mn, .int mall, .ref 43, .ref 44, .ref 45, .ref 46, .int msum, .ref 47, .int mexchanges, .ref 48, .ref 49, .ref 50, .ref 51, .int mcycleMany, .ref 52, .int mwhich, .ref 53, .ref 54, .ref 55, .ref 56, .ref 57, .ref 58, .int mlatest, .int mfirstFound, .int mpartMany, .ref 59, .int mlength, .ref 60, .ref 61, .ref 62, .ref 63, .ref 64])) (g43 : h 43 = (0, .inr (20000, .inl mleasts))) (q1 : (mall ≤ x3) → Q (some (.int x2)) h) (q2 : (¬ mall ≤ x3) → vp_in x3 20000) (q3 : (¬ mall ≤ x3) → (x1 ≤ (mleasts x3.toNatClampNeg)) → V G mX8_below b 15 [some (.ref 42), some (.int x1), some (.int (x2 + (0 : Int32))), some (.int (x3 + (1 : Int32)))] [] h Q) (q4 : (¬ mall ≤ x3) → (¬ x1 ≤ (mleasts x3.toNatClampNeg)) → V G mX8_below b 15 [some (.ref 42), some (.int x1), some (.int (x2 + (1 : Int32))), some (.int (x3 + (1 : Int32)))] [] h Q) : V G mX8_below b 15 [some (.ref 42), some (.int x1), some (.int x2), some (.int x3)] [] h Q := by
  refine V_iload_n dX8_below_15 rfl rfl ?_
  refine V_aload_n dX8_below_16 rfl rfl ?_
  refine V_get (ci := 8) (j := 2) (C0 := RX8) (T := TX8) (N := 33) dX8_below_17 rfl g42 (by decide) (by decide) kf_X8_99 rfl ?_
  refine V_icmp_ge (t := 47) dX8_below_20 (by decide) (fun z1 => ?_) (fun z1 => ?_)
  ·
    refine V_iload_n dX8_below_47 rfl rfl ?_
    exact V_iret dX8_below_48 rfl (q1 z1)
  ·
    refine V_iload_n dX8_below_23 rfl rfl ?_
    refine V_aload_n dX8_below_24 rfl rfl ?_
    refine V_get (ci := 8) (j := 3) (C0 := RX8) (T := TX8) (N := 33) dX8_below_25 rfl g42 (by decide) (by decide) kf_X8_7 rfl ?_
    refine V_iload_n dX8_below_28 rfl rfl ?_
    refine V_iald dX8_below_29 g43 (q2 z1) ?_
    refine V_iload_n dX8_below_30 rfl rfl ?_
    refine V_icmp_ge (t := 38) dX8_below_31 (by decide) (fun z2 => ?_) (fun z2 => ?_)
    ·
      refine V_iconst dX8_below_38 ic_0 ?_
      refine V_iadd dX8_below_39 ?_
      refine V_istore_n dX8_below_40 rfl (Nat.le_of_ble_eq_true rfl) ?_
      refine V_inc dX8_below_41 ic_1 rfl (Nat.le_of_ble_eq_true rfl) ?_
      refine V_goto (t := 15) dX8_below_44 (by decide) ?_
      exact V_sub (by exact (And.intro rfl (And.intro rfl (And.intro rfl (And.intro rfl True.intro))))) (q3 z1 z2)
    ·
      refine V_iconst dX8_below_34 ic_1 ?_
      refine V_goto (t := 39) dX8_below_35 (by decide) ?_
      refine V_iadd dX8_below_39 ?_
      refine V_istore_n dX8_below_40 rfl (Nat.le_of_ble_eq_true rfl) ?_
      refine V_inc dX8_below_41 ic_1 rfl (Nat.le_of_ble_eq_true rfl) ?_
      refine V_goto (t := 15) dX8_below_44 (by decide) ?_
      exact V_sub (by exact (And.intro rfl (And.intro rfl (And.intro rfl (And.intro rfl True.intro))))) (q4 z1 z2)
theorem tX8_below_5 {G : gx} {b : bg} {h : ah} {Q : Option Value → ah → Prop} {x1 : Int32} {s0 : Int32} (q1 : (¬ s0 = (0 : Int32)) → V G mX8_below b 15 [some (.ref 42), some (.int x1), some (.int (0 : Int32)), some (.int (0 : Int32))] [] h Q) (q2 : (s0 = (0 : Int32)) → Q (some (.int (-2 : Int32))) h) : V G mX8_below b 5 [some (.ref 42), some (.int x1)] [.int s0] h Q := by
  refine V_if_ne (t := 11) dX8_below_5 (by decide) (fun z1 => ?_) (fun z1 => ?_)
  ·
    refine V_iconst dX8_below_11 ic_0 ?_
    refine V_istore_n dX8_below_12 rfl (Nat.le_of_ble_eq_true rfl) ?_
    refine V_iconst dX8_below_13 ic_0 ?_
    refine V_istore_n dX8_below_14 rfl (Nat.le_of_ble_eq_true rfl) ?_
    exact V_sub (by exact (And.intro rfl (And.intro rfl (And.intro rfl (And.intro rfl True.intro))))) (q1 z1)
  ·
    refine V_bipush dX8_below_8 bp_m2 ?_
    exact V_iret dX8_below_10 rfl (q2 z1)
theorem cX8_below_2 {G : gx} {d mc ms cc zz d2 mc2 ms2 : Nat} {L : List (Option Value)} {S : List Value} {h : ah} {Q Q2 : Option Value → ah → Prop} {k : Nat} {fs : List Value} {a0 : Value} (hM : Ct G mX8_isWord d2 mc2 ms2 (.ref (k + 2) :: [a0]) h Q2) (hc : h (k + 2) = (8, .inl fs)) (hdd : d2 < d ∧ d ≤ 9) (hrm : (S.map fun v => v.category).sum ≤ 8) (hf : cc + mc2 ≤ mc ∧ zz + ms2 ≤ ms) (kk : ∀ r h2, Q2 r h2 → V G mX8_below (d, mc, ms, cc + mc2, zz + ms2) 5 L (r.toList ++ S) h2 Q) : V G mX8_below (d, mc, ms, cc, zz) 2 L (a0 :: .ref (k + 2) :: S) h Q := V_callV (ci := 8) (T := TX8) (N := 33) hM dX8_below_2 ⟨km_X8_121, ki_X8_isWord, ks_X8_isWord⟩ cw_X8_isWord rfl hc (by decide) hdd rfl rfl hrm hf kk
theorem tX8_content_0 {G : gx} {b : bg} {h : ah} {Q : Option Value → ah → Prop} {x1 : Int32} {x2 : Int32} {x3 : Int32} {x4 : Int32} {x5 : Int32} {mk : Int32} {mn : Int32} {mall : Int32} {msum : Int32} {mexchanges : Int32} {mcycleMany : Int32} {mwhich : Int32} {mlatest : Int32} {mfirstFound : Int32} {mpartMany : Int32} {mlength : Int32} {mwanted : Nat → Int32} (g42 : h 42 = (8, .inl [.int mk, .int mn, .int mall, .ref 43, .ref 44, .ref 45, .ref 46, .int msum, .ref 47, .int mexchanges, .ref 48, .ref 49, .ref 50, .ref 51, .int mcycleMany, .ref 52, .int mwhich, .ref 53, .ref 54, .ref 55, .ref 56, .ref 57, .ref 58, .int mlatest, .int mfirstFound, .int mpartMany, .ref 59, .int mlength, .ref 60, .ref 61, .ref 62, .ref 63, .ref 64])) (g44 : h 44 = (0, .inr (5, .inl mwanted))) (q1 : vp_in (0 : Int32) 5) (q2 : vp_in (1 : Int32) 5) (q3 : vp_in (2 : Int32) 5) (q4 : vp_in (3 : Int32) 5) (q5 : vp_in (4 : Int32) 5) (q6 : V G mX8_content b 46 [some (.ref 42), some (.int x1), some (.int x2), some (.int x3), some (.int x4), some (.int x5), some (.long (0 : Int64)), none, some (.int (1 : Int32)), some (.int (0 : Int32))] [] (va_up (va_up (va_up (va_up (va_up h 44 (0, .inr (5, .inl (upd mwanted (0 : Int32).toNatClampNeg x1)))) 44 (0, .inr (5, .inl (upd (upd mwanted (0 : Int32).toNatClampNeg x1) (1 : Int32).toNatClampNeg x2)))) 44 (0, .inr (5, .inl (upd (upd (upd mwanted (0 : Int32).toNatClampNeg x1) (1 : Int32).toNatClampNeg x2) (2 : Int32).toNatClampNeg x3)))) 44 (0, .inr (5, .inl (upd (upd (upd (upd mwanted (0 : Int32).toNatClampNeg x1) (1 : Int32).toNatClampNeg x2) (2 : Int32).toNatClampNeg x3) (3 : Int32).toNatClampNeg x4)))) 44 (0, .inr (5, .inl (upd (upd (upd (upd (upd mwanted (0 : Int32).toNatClampNeg x1) (1 : Int32).toNatClampNeg x2) (2 : Int32).toNatClampNeg x3) (3 : Int32).toNatClampNeg x4) (4 : Int32).toNatClampNeg x5)))) Q) : V G mX8_content b 0 [some (.ref 42), some (.int x1), some (.int x2), some (.int x3), some (.int x4), some (.int x5)] [] h Q := by
  refine V_aload_n dX8_content_0 rfl rfl ?_
  refine V_get (ci := 8) (j := 4) (C0 := RX8) (T := TX8) (N := 33) dX8_content_1 rfl g42 (by decide) (by decide) kf_X8_13 rfl ?_
  refine V_iconst dX8_content_4 ic_0 ?_
  refine V_iload_n dX8_content_5 rfl rfl ?_
  refine V_iast dX8_content_6 g44 (q1) ?_
  refine V_aload_n dX8_content_7 rfl rfl ?_
  refine V_get (ci := 8) (j := 4) (C0 := RX8) (T := TX8) (N := 33) dX8_content_8 rfl g42 (by decide) (by decide) kf_X8_13 rfl ?_
  refine V_iconst dX8_content_11 ic_1 ?_
  refine V_iload_n dX8_content_12 rfl rfl ?_
  refine V_iast dX8_content_13 rfl (q2) ?_
  refine V_aload_n dX8_content_14 rfl rfl ?_
  refine V_get (ci := 8) (j := 4) (C0 := RX8) (T := TX8) (N := 33) dX8_content_15 rfl g42 (by decide) (by decide) kf_X8_13 rfl ?_
  refine V_iconst dX8_content_18 ic_2 ?_
  refine V_iload_n dX8_content_19 rfl rfl ?_
  refine V_iast dX8_content_20 rfl (q3) ?_
  refine V_aload_n dX8_content_21 rfl rfl ?_
  refine V_get (ci := 8) (j := 4) (C0 := RX8) (T := TX8) (N := 33) dX8_content_22 rfl g42 (by decide) (by decide) kf_X8_13 rfl ?_
  refine V_iconst dX8_content_25 ic_3 ?_
  refine V_iload dX8_content_26 rfl ?_
  refine V_iast dX8_content_28 rfl (q4) ?_
  refine V_aload_n dX8_content_29 rfl rfl ?_
  refine V_get (ci := 8) (j := 4) (C0 := RX8) (T := TX8) (N := 33) dX8_content_30 rfl g42 (by decide) (by decide) kf_X8_13 rfl ?_
  refine V_iconst dX8_content_33 ic_4 ?_
  refine V_iload dX8_content_34 rfl ?_
  refine V_iast dX8_content_36 rfl (q5) ?_
  refine V_lconst dX8_content_37 lc_0 ?_
  refine V_lstore dX8_content_38 (Nat.le_of_ble_eq_true rfl) ?_
  refine V_iconst dX8_content_40 ic_1 ?_
  refine V_istore dX8_content_41 (Nat.le_of_ble_eq_true rfl) ?_
  refine V_iconst dX8_content_43 ic_0 ?_
  refine V_istore dX8_content_44 (Nat.le_of_ble_eq_true rfl) ?_
  exact V_sub (by exact (And.intro rfl (And.intro rfl (And.intro rfl (And.intro rfl (And.intro rfl (And.intro rfl (And.intro rfl (And.intro rfl (And.intro rfl True.intro)))))))))) (q6)
theorem tX8_content_46 {G : gx} {b : bg} {h : ah} {Q : Option Value → ah → Prop} {x1 : Int32} {x2 : Int32} {x3 : Int32} {x4 : Int32} {x5 : Int32} {y6 : Int64} {x8 : Int32} {x9 : Int32} {mk : Int32} {mn : Int32} {mall : Int32} {msum : Int32} {mexchanges : Int32} {mcycleMany : Int32} {mwhich : Int32} {mlatest : Int32} {mfirstFound : Int32} {mpartMany : Int32} {mlength : Int32} {mwanted : Nat → Int32} (g42 : h 42 = (8, .inl [.int mk, .int mn, .int mall, .ref 43, .ref 44, .ref 45, .ref 46, .int msum, .ref 47, .int mexchanges, .ref 48, .ref 49, .ref 50, .ref 51, .int mcycleMany, .ref 52, .int mwhich, .ref 53, .ref 54, .ref 55, .ref 56, .ref 57, .ref 58, .int mlatest, .int mfirstFound, .int mpartMany, .ref 59, .int mlength, .ref 60, .ref 61, .ref 62, .ref 63, .ref 64])) (g44 : h 44 = (0, .inr (5, .inl mwanted))) (q1 : ((5 : Int32) ≤ x9) → (x8 = (0 : Int32)) → Q (some (.int (-2 : Int32))) h) (q2 : ((5 : Int32) ≤ x9) → (¬ x8 = (0 : Int32)) → ((lg_cmp y6 (mn.toInt64)) = (0 : Int32)) → V G mX8_content b 137 [some (.ref 42), some (.int x1), some (.int x2), some (.int x3), some (.int x4), some (.int x5), some (.long y6), none, some (.int x8), some (.int (0 : Int32)), some (.int (0 : Int32))] [] h Q) (q3 : ((5 : Int32) ≤ x9) → (¬ x8 = (0 : Int32)) → (¬ (lg_cmp y6 (mn.toInt64)) = (0 : Int32)) → Q (some (.int (-2 : Int32))) h) (q4 : (¬ (5 : Int32) ≤ x9) → (x8 = (0 : Int32)) → vp_in x9 5) (q5 : (¬ (5 : Int32) ≤ x9) → (x8 = (0 : Int32)) → V G mX8_content b 46 [some (.ref 42), some (.int x1), some (.int x2), some (.int x3), some (.int x4), some (.int x5), some (.long (y6 + (mwanted x9.toNatClampNeg).toInt64)), none, some (.int (0 : Int32)), some (.int (x9 + (1 : Int32)))] [] h Q) (q6 : (¬ (5 : Int32) ≤ x9) → (¬ x8 = (0 : Int32)) → vp_in x9 5) (q7 : (¬ (5 : Int32) ≤ x9) → (¬ x8 = (0 : Int32)) → ((mwanted x9.toNatClampNeg) < (0 : Int32)) → vp_in x9 5) (q8 : (¬ (5 : Int32) ≤ x9) → (¬ x8 = (0 : Int32)) → ((mwanted x9.toNatClampNeg) < (0 : Int32)) → V G mX8_content b 46 [some (.ref 42), some (.int x1), some (.int x2), some (.int x3), some (.int x4), some (.int x5), some (.long (y6 + (mwanted x9.toNatClampNeg).toInt64)), none, some (.int (0 : Int32)), some (.int (x9 + (1 : Int32)))] [] h Q) (q9 : (¬ (5 : Int32) ≤ x9) → (¬ x8 = (0 : Int32)) → (¬ (mwanted x9.toNatClampNeg) < (0 : Int32)) → (x9 < mk) → vp_in x9 5) (q10 : (¬ (5 : Int32) ≤ x9) → (¬ x8 = (0 : Int32)) → (¬ (mwanted x9.toNatClampNeg) < (0 : Int32)) → (x9 < mk) → V G mX8_content b 46 [some (.ref 42), some (.int x1), some (.int x2), some (.int x3), some (.int x4), some (.int x5), some (.long (y6 + (mwanted x9.toNatClampNeg).toInt64)), none, some (.int (1 : Int32)), some (.int (x9 + (1 : Int32)))] [] h Q) (q11 : (¬ (5 : Int32) ≤ x9) → (¬ x8 = (0 : Int32)) → (¬ (mwanted x9.toNatClampNeg) < (0 : Int32)) → (¬ x9 < mk) → vp_in x9 5) (q12 : (¬ (5 : Int32) ≤ x9) → (¬ x8 = (0 : Int32)) → (¬ (mwanted x9.toNatClampNeg) < (0 : Int32)) → (¬ x9 < mk) → (¬ (mwanted x9.toNatClampNeg) = (0 : Int32)) → vp_in x9 5) (q13 : (¬ (5 : Int32) ≤ x9) → (¬ x8 = (0 : Int32)) → (¬ (mwanted x9.toNatClampNeg) < (0 : Int32)) → (¬ x9 < mk) → (¬ (mwanted x9.toNatClampNeg) = (0 : Int32)) → V G mX8_content b 46 [some (.ref 42), some (.int x1), some (.int x2), some (.int x3), some (.int x4), some (.int x5), some (.long (y6 + (mwanted x9.toNatClampNeg).toInt64)), none, some (.int (0 : Int32)), some (.int (x9 + (1 : Int32)))] [] h Q) (q14 : (¬ (5 : Int32) ≤ x9) → (¬ x8 = (0 : Int32)) → (¬ (mwanted x9.toNatClampNeg) < (0 : Int32)) → (¬ x9 < mk) → ((mwanted x9.toNatClampNeg) = (0 : Int32)) → vp_in x9 5) (q15 : (¬ (5 : Int32) ≤ x9) → (¬ x8 = (0 : Int32)) → (¬ (mwanted x9.toNatClampNeg) < (0 : Int32)) → (¬ x9 < mk) → ((mwanted x9.toNatClampNeg) = (0 : Int32)) → V G mX8_content b 46 [some (.ref 42), some (.int x1), some (.int x2), some (.int x3), some (.int x4), some (.int x5), some (.long (y6 + (mwanted x9.toNatClampNeg).toInt64)), none, some (.int (1 : Int32)), some (.int (x9 + (1 : Int32)))] [] h Q) : V G mX8_content b 46 [some (.ref 42), some (.int x1), some (.int x2), some (.int x3), some (.int x4), some (.int x5), some (.long y6), none, some (.int x8), some (.int x9)] [] h Q := by
  refine V_iload dX8_content_46 rfl ?_
  refine V_iconst dX8_content_48 ic_5 ?_
  refine V_icmp_ge (t := 112) dX8_content_49 (by decide) (fun z1 => ?_) (fun z1 => ?_)
  ·
    refine V_iload dX8_content_112 rfl ?_
    refine V_if_eq (t := 128) dX8_content_114 (by decide) (fun z2 => ?_) (fun z2 => ?_)
    ·
      refine V_bipush dX8_content_128 bp_m2 ?_
      exact V_iret dX8_content_130 rfl (q1 z1 z2)
    ·
      refine V_lload dX8_content_117 rfl ?_
      refine V_aload_n dX8_content_119 rfl rfl ?_
      refine V_get (ci := 8) (j := 1) (C0 := RX8) (T := TX8) (N := 33) dX8_content_120 rfl g42 (by decide) (by decide) kf_X8_96 rfl ?_
      refine V_i2l dX8_content_123 ?_
      refine V_lcmp dX8_content_124 ?_
      refine V_if_eq (t := 131) dX8_content_125 (by decide) (fun z3 => ?_) (fun z3 => ?_)
      ·
        refine V_iconst dX8_content_131 ic_0 ?_
        refine V_istore dX8_content_132 (Nat.le_of_ble_eq_true rfl) ?_
        refine V_iconst dX8_content_134 ic_0 ?_
        refine V_istore dX8_content_135 (Nat.le_of_ble_eq_true rfl) ?_
        exact V_sub (by exact (And.intro rfl (And.intro rfl (And.intro rfl (And.intro rfl (And.intro rfl (And.intro rfl (And.intro rfl (And.intro rfl (And.intro rfl (And.intro rfl True.intro))))))))))) (q2 z1 z2 z3)
      ·
        refine V_bipush dX8_content_128 bp_m2 ?_
        exact V_iret dX8_content_130 rfl (q3 z1 z2 z3)
  ·
    refine V_iload dX8_content_52 rfl ?_
    refine V_if_eq (t := 90) dX8_content_54 (by decide) (fun z4 => ?_) (fun z4 => ?_)
    ·
      refine V_iconst dX8_content_90 ic_0 ?_
      refine V_istore dX8_content_91 (Nat.le_of_ble_eq_true rfl) ?_
      refine V_lload dX8_content_93 rfl ?_
      refine V_aload_n dX8_content_95 rfl rfl ?_
      refine V_get (ci := 8) (j := 4) (C0 := RX8) (T := TX8) (N := 33) dX8_content_96 rfl g42 (by decide) (by decide) kf_X8_13 rfl ?_
      refine V_iload dX8_content_99 rfl ?_
      refine V_iald dX8_content_101 g44 (q4 z1 z4) ?_
      refine V_i2l dX8_content_102 ?_
      refine V_ladd dX8_content_103 ?_
      refine V_lstore dX8_content_104 (Nat.le_of_ble_eq_true rfl) ?_
      refine V_inc dX8_content_106 ic_1 rfl (Nat.le_of_ble_eq_true rfl) ?_
      refine V_goto (t := 46) dX8_content_109 (by decide) ?_
      exact V_sub (by exact (And.intro rfl (And.intro rfl (And.intro rfl (And.intro rfl (And.intro rfl (And.intro rfl (And.intro rfl (And.intro rfl (And.intro rfl True.intro)))))))))) (q5 z1 z4)
    ·
      refine V_aload_n dX8_content_57 rfl rfl ?_
      refine V_get (ci := 8) (j := 4) (C0 := RX8) (T := TX8) (N := 33) dX8_content_58 rfl g42 (by decide) (by decide) kf_X8_13 rfl ?_
      refine V_iload dX8_content_61 rfl ?_
      refine V_iald dX8_content_63 g44 (q6 z1 z4) ?_
      refine V_if_lt (t := 90) dX8_content_64 (by decide) (fun z5 => ?_) (fun z5 => ?_)
      ·
        refine V_iconst dX8_content_90 ic_0 ?_
        refine V_istore dX8_content_91 (Nat.le_of_ble_eq_true rfl) ?_
        refine V_lload dX8_content_93 rfl ?_
        refine V_aload_n dX8_content_95 rfl rfl ?_
        refine V_get (ci := 8) (j := 4) (C0 := RX8) (T := TX8) (N := 33) dX8_content_96 rfl g42 (by decide) (by decide) kf_X8_13 rfl ?_
        refine V_iload dX8_content_99 rfl ?_
        refine V_iald dX8_content_101 g44 (q7 z1 z4 z5) ?_
        refine V_i2l dX8_content_102 ?_
        refine V_ladd dX8_content_103 ?_
        refine V_lstore dX8_content_104 (Nat.le_of_ble_eq_true rfl) ?_
        refine V_inc dX8_content_106 ic_1 rfl (Nat.le_of_ble_eq_true rfl) ?_
        refine V_goto (t := 46) dX8_content_109 (by decide) ?_
        exact V_sub (by exact (And.intro rfl (And.intro rfl (And.intro rfl (And.intro rfl (And.intro rfl (And.intro rfl (And.intro rfl (And.intro rfl (And.intro rfl True.intro)))))))))) (q8 z1 z4 z5)
      ·
        refine V_iload dX8_content_67 rfl ?_
        refine V_aload_n dX8_content_69 rfl rfl ?_
        refine V_get (ci := 8) (j := 0) (C0 := RX8) (T := TX8) (N := 33) dX8_content_70 rfl g42 (by decide) (by decide) kf_X8_92 rfl ?_
        refine V_icmp_lt (t := 86) dX8_content_73 (by decide) (fun z6 => ?_) (fun z6 => ?_)
        ·
          refine V_iconst dX8_content_86 ic_1 ?_
          refine V_goto (t := 91) dX8_content_87 (by decide) ?_
          refine V_istore dX8_content_91 (Nat.le_of_ble_eq_true rfl) ?_
          refine V_lload dX8_content_93 rfl ?_
          refine V_aload_n dX8_content_95 rfl rfl ?_
          refine V_get (ci := 8) (j := 4) (C0 := RX8) (T := TX8) (N := 33) dX8_content_96 rfl g42 (by decide) (by decide) kf_X8_13 rfl ?_
          refine V_iload dX8_content_99 rfl ?_
          refine V_iald dX8_content_101 g44 (q9 z1 z4 z5 z6) ?_
          refine V_i2l dX8_content_102 ?_
          refine V_ladd dX8_content_103 ?_
          refine V_lstore dX8_content_104 (Nat.le_of_ble_eq_true rfl) ?_
          refine V_inc dX8_content_106 ic_1 rfl (Nat.le_of_ble_eq_true rfl) ?_
          refine V_goto (t := 46) dX8_content_109 (by decide) ?_
          exact V_sub (by exact (And.intro rfl (And.intro rfl (And.intro rfl (And.intro rfl (And.intro rfl (And.intro rfl (And.intro rfl (And.intro rfl (And.intro rfl True.intro)))))))))) (q10 z1 z4 z5 z6)
        ·
          refine V_aload_n dX8_content_76 rfl rfl ?_
          refine V_get (ci := 8) (j := 4) (C0 := RX8) (T := TX8) (N := 33) dX8_content_77 rfl g42 (by decide) (by decide) kf_X8_13 rfl ?_
          refine V_iload dX8_content_80 rfl ?_
          refine V_iald dX8_content_82 g44 (q11 z1 z4 z5 z6) ?_
          refine V_if_ne (t := 90) dX8_content_83 (by decide) (fun z7 => ?_) (fun z7 => ?_)
          ·
            refine V_iconst dX8_content_90 ic_0 ?_
            refine V_istore dX8_content_91 (Nat.le_of_ble_eq_true rfl) ?_
            refine V_lload dX8_content_93 rfl ?_
            refine V_aload_n dX8_content_95 rfl rfl ?_
            refine V_get (ci := 8) (j := 4) (C0 := RX8) (T := TX8) (N := 33) dX8_content_96 rfl g42 (by decide) (by decide) kf_X8_13 rfl ?_
            refine V_iload dX8_content_99 rfl ?_
            refine V_iald dX8_content_101 g44 (q12 z1 z4 z5 z6 z7) ?_
            refine V_i2l dX8_content_102 ?_
            refine V_ladd dX8_content_103 ?_
            refine V_lstore dX8_content_104 (Nat.le_of_ble_eq_true rfl) ?_
            refine V_inc dX8_content_106 ic_1 rfl (Nat.le_of_ble_eq_true rfl) ?_
            refine V_goto (t := 46) dX8_content_109 (by decide) ?_
            exact V_sub (by exact (And.intro rfl (And.intro rfl (And.intro rfl (And.intro rfl (And.intro rfl (And.intro rfl (And.intro rfl (And.intro rfl (And.intro rfl True.intro)))))))))) (q13 z1 z4 z5 z6 z7)
          ·
            refine V_iconst dX8_content_86 ic_1 ?_
            refine V_goto (t := 91) dX8_content_87 (by decide) ?_
            refine V_istore dX8_content_91 (Nat.le_of_ble_eq_true rfl) ?_
            refine V_lload dX8_content_93 rfl ?_
            refine V_aload_n dX8_content_95 rfl rfl ?_
            refine V_get (ci := 8) (j := 4) (C0 := RX8) (T := TX8) (N := 33) dX8_content_96 rfl g42 (by decide) (by decide) kf_X8_13 rfl ?_
            refine V_iload dX8_content_99 rfl ?_
            refine V_iald dX8_content_101 g44 (q14 z1 z4 z5 z6 z7) ?_
            refine V_i2l dX8_content_102 ?_
            refine V_ladd dX8_content_103 ?_
            refine V_lstore dX8_content_104 (Nat.le_of_ble_eq_true rfl) ?_
            refine V_inc dX8_content_106 ic_1 rfl (Nat.le_of_ble_eq_true rfl) ?_
            refine V_goto (t := 46) dX8_content_109 (by decide) ?_
            exact V_sub (by exact (And.intro rfl (And.intro rfl (And.intro rfl (And.intro rfl (And.intro rfl (And.intro rfl (And.intro rfl (And.intro rfl (And.intro rfl True.intro)))))))))) (q15 z1 z4 z5 z6 z7)
theorem tX8_content_137 {G : gx} {b : bg} {h : ah} {Q : Option Value → ah → Prop} {x1 : Int32} {x2 : Int32} {x3 : Int32} {x4 : Int32} {x5 : Int32} {y6 : Int64} {x8 : Int32} {x9 : Int32} {x10 : Int32} {mk : Int32} {mn : Int32} {mall : Int32} {msum : Int32} {mexchanges : Int32} {mcycleMany : Int32} {mwhich : Int32} {mlatest : Int32} {mfirstFound : Int32} {mpartMany : Int32} {mlength : Int32} {mleasts : Nat → Int32} (g42 : h 42 = (8, .inl [.int mk, .int mn, .int mall, .ref 43, .ref 44, .ref 45, .ref 46, .int msum, .ref 47, .int mexchanges, .ref 48, .ref 49, .ref 50, .ref 51, .int mcycleMany, .ref 52, .int mwhich, .ref 53, .ref 54, .ref 55, .ref 56, .ref 57, .ref 58, .int mlatest, .int mfirstFound, .int mpartMany, .ref 59, .int mlength, .ref 60, .ref 61, .ref 62, .ref 63, .ref 64])) (g43 : h 43 = (0, .inr (20000, .inl mleasts))) (q1 : (mall ≤ x10) → Q (some (.int x9)) h) (q2 : (¬ mall ≤ x10) → vp_in x10 20000) (q3 : (¬ mall ≤ x10) → (¬ (mleasts x10.toNatClampNeg) = x10) → V G mX8_content b 137 [some (.ref 42), some (.int x1), some (.int x2), some (.int x3), some (.int x4), some (.int x5), some (.long y6), none, some (.int x8), some (.int (x9 + (0 : Int32))), some (.int (x10 + (1 : Int32)))] [] h Q) (q4 : (¬ mall ≤ x10) → ((mleasts x10.toNatClampNeg) = x10) → V G mX8_content b 163 [some (.ref 42), some (.int x1), some (.int x2), some (.int x3), some (.int x4), some (.int x5), some (.long y6), none, some (.int x8), some (.int x9), some (.int x10)] [.int x10, .ref 42, .int x9] h Q) : V G mX8_content b 137 [some (.ref 42), some (.int x1), some (.int x2), some (.int x3), some (.int x4), some (.int x5), some (.long y6), none, some (.int x8), some (.int x9), some (.int x10)] [] h Q := by
  refine V_iload dX8_content_137 rfl ?_
  refine V_aload_n dX8_content_139 rfl rfl ?_
  refine V_get (ci := 8) (j := 2) (C0 := RX8) (T := TX8) (N := 33) dX8_content_140 rfl g42 (by decide) (by decide) kf_X8_99 rfl ?_
  refine V_icmp_ge (t := 183) dX8_content_143 (by decide) (fun z1 => ?_) (fun z1 => ?_)
  ·
    refine V_iload dX8_content_183 rfl ?_
    exact V_iret dX8_content_185 rfl (q1 z1)
  ·
    refine V_iload dX8_content_146 rfl ?_
    refine V_aload_n dX8_content_148 rfl rfl ?_
    refine V_get (ci := 8) (j := 3) (C0 := RX8) (T := TX8) (N := 33) dX8_content_149 rfl g42 (by decide) (by decide) kf_X8_7 rfl ?_
    refine V_iload dX8_content_152 rfl ?_
    refine V_iald dX8_content_154 g43 (q2 z1) ?_
    refine V_iload dX8_content_155 rfl ?_
    refine V_icmp_ne (t := 173) dX8_content_157 (by decide) (fun z2 => ?_) (fun z2 => ?_)
    ·
      refine V_iconst dX8_content_173 ic_0 ?_
      refine V_iadd dX8_content_174 ?_
      refine V_istore dX8_content_175 (Nat.le_of_ble_eq_true rfl) ?_
      refine V_inc dX8_content_177 ic_1 rfl (Nat.le_of_ble_eq_true rfl) ?_
      refine V_goto (t := 137) dX8_content_180 (by decide) ?_
      exact V_sub (by exact (And.intro rfl (And.intro rfl (And.intro rfl (And.intro rfl (And.intro rfl (And.intro rfl (And.intro rfl (And.intro rfl (And.intro rfl (And.intro rfl True.intro))))))))))) (q3 z1 z2)
    ·
      refine V_aload_n dX8_content_160 rfl rfl ?_
      refine V_iload dX8_content_161 rfl ?_
      exact V_sub (by exact (And.intro rfl (And.intro rfl (And.intro rfl (And.intro rfl (And.intro rfl (And.intro rfl (And.intro rfl (And.intro rfl (And.intro rfl (And.intro rfl True.intro))))))))))) (q4 z1 z2)
theorem tX8_content_166 {G : gx} {b : bg} {h : ah} {Q : Option Value → ah → Prop} {x1 : Int32} {x2 : Int32} {x3 : Int32} {x4 : Int32} {x5 : Int32} {y6 : Int64} {x8 : Int32} {x9 : Int32} {x10 : Int32} {s0 : Int32} {s1 : Int32} (q1 : (s0 = (0 : Int32)) → V G mX8_content b 137 [some (.ref 42), some (.int x1), some (.int x2), some (.int x3), some (.int x4), some (.int x5), some (.long y6), none, some (.int x8), some (.int (s1 + (0 : Int32))), some (.int (x10 + (1 : Int32)))] [] h Q) (q2 : (¬ s0 = (0 : Int32)) → V G mX8_content b 137 [some (.ref 42), some (.int x1), some (.int x2), some (.int x3), some (.int x4), some (.int x5), some (.long y6), none, some (.int x8), some (.int (s1 + (1 : Int32))), some (.int (x10 + (1 : Int32)))] [] h Q) : V G mX8_content b 166 [some (.ref 42), some (.int x1), some (.int x2), some (.int x3), some (.int x4), some (.int x5), some (.long y6), none, some (.int x8), some (.int x9), some (.int x10)] [.int s0, .int s1] h Q := by
  refine V_if_eq (t := 173) dX8_content_166 (by decide) (fun z1 => ?_) (fun z1 => ?_)
  ·
    refine V_iconst dX8_content_173 ic_0 ?_
    refine V_iadd dX8_content_174 ?_
    refine V_istore dX8_content_175 (Nat.le_of_ble_eq_true rfl) ?_
    refine V_inc dX8_content_177 ic_1 rfl (Nat.le_of_ble_eq_true rfl) ?_
    refine V_goto (t := 137) dX8_content_180 (by decide) ?_
    exact V_sub (by exact (And.intro rfl (And.intro rfl (And.intro rfl (And.intro rfl (And.intro rfl (And.intro rfl (And.intro rfl (And.intro rfl (And.intro rfl (And.intro rfl True.intro))))))))))) (q1 z1)
  ·
    refine V_iconst dX8_content_169 ic_1 ?_
    refine V_goto (t := 174) dX8_content_170 (by decide) ?_
    refine V_iadd dX8_content_174 ?_
    refine V_istore dX8_content_175 (Nat.le_of_ble_eq_true rfl) ?_
    refine V_inc dX8_content_177 ic_1 rfl (Nat.le_of_ble_eq_true rfl) ?_
    refine V_goto (t := 137) dX8_content_180 (by decide) ?_
    exact V_sub (by exact (And.intro rfl (And.intro rfl (And.intro rfl (And.intro rfl (And.intro rfl (And.intro rfl (And.intro rfl (And.intro rfl (And.intro rfl (And.intro rfl True.intro))))))))))) (q2 z1)
theorem cX8_content_163 {G : gx} {d mc ms cc zz d2 mc2 ms2 : Nat} {L : List (Option Value)} {S : List Value} {h : ah} {Q Q2 : Option Value → ah → Prop} {k : Nat} {fs : List Value} {a0 : Value} (hM : Ct G mX8_hasWanted d2 mc2 ms2 (.ref (k + 2) :: [a0]) h Q2) (hc : h (k + 2) = (8, .inl fs)) (hdd : d2 < d ∧ d ≤ 9) (hrm : (S.map fun v => v.category).sum ≤ 8) (hf : cc + mc2 ≤ mc ∧ zz + ms2 ≤ ms) (kk : ∀ r h2, Q2 r h2 → V G mX8_content (d, mc, ms, cc + mc2, zz + ms2) 166 L (r.toList ++ S) h2 Q) : V G mX8_content (d, mc, ms, cc, zz) 163 L (a0 :: .ref (k + 2) :: S) h Q := V_callV (ci := 8) (T := TX8) (N := 33) hM dX8_content_163 ⟨km_X8_130, ki_X8_hasWanted, ks_X8_hasWanted⟩ cw_X8_hasWanted rfl hc (by decide) hdd rfl rfl hrm hf kk
theorem tX8_hasWanted_0 {G : gx} {b : bg} {h : ah} {Q : Option Value → ah → Prop} {x1 : Int32} (q1 : V G mX8_hasWanted b 2 [some (.ref 42), some (.int x1), some (.int (0 : Int32))] [] h Q) : V G mX8_hasWanted b 0 [some (.ref 42), some (.int x1)] [] h Q := by
  refine V_iconst dX8_hasWanted_0 ic_0 ?_
  refine V_istore_n dX8_hasWanted_1 rfl (Nat.le_of_ble_eq_true rfl) ?_
  exact V_sub (by exact (And.intro rfl (And.intro rfl (And.intro rfl True.intro)))) (q1)
theorem tX8_hasWanted_2 {G : gx} {b : bg} {h : ah} {Q : Option Value → ah → Prop} {x1 : Int32} {x2 : Int32} {mk : Int32} {mn : Int32} {mall : Int32} {msum : Int32} {mexchanges : Int32} {mcycleMany : Int32} {mwhich : Int32} {mlatest : Int32} {mfirstFound : Int32} {mpartMany : Int32} {mlength : Int32} {mhad : Nat → Int32} (g42 : h 42 = (8, .inl [.int mk, .int mn, .int mall, .ref 43, .ref 44, .ref 45, .ref 46, .int msum, .ref 47, .int mexchanges, .ref 48, .ref 49, .ref 50, .ref 51, .int mcycleMany, .ref 52, .int mwhich, .ref 53, .ref 54, .ref 55, .ref 56, .ref 57, .ref 58, .int mlatest, .int mfirstFound, .int mpartMany, .ref 59, .int mlength, .ref 60, .ref 61, .ref 62, .ref 63, .ref 64])) (g45 : h 45 = (0, .inr (5, .inl mhad))) (q1 : ((5 : Int32) ≤ x2) → V G mX8_hasWanted b 24 [some (.ref 42), some (.int x1), some (.int x1), some (.int (0 : Int32))] [] h Q) (q2 : (¬ (5 : Int32) ≤ x2) → vp_in x2 5) (q3 : (¬ (5 : Int32) ≤ x2) → V G mX8_hasWanted b 2 [some (.ref 42), some (.int x1), some (.int (x2 + (1 : Int32)))] [] (va_up h 45 (0, .inr (5, .inl (upd mhad x2.toNatClampNeg (0 : Int32))))) Q) : V G mX8_hasWanted b 2 [some (.ref 42), some (.int x1), some (.int x2)] [] h Q := by
  refine V_iload_n dX8_hasWanted_2 rfl rfl ?_
  refine V_iconst dX8_hasWanted_3 ic_5 ?_
  refine V_icmp_ge (t := 20) dX8_hasWanted_4 (by decide) (fun z1 => ?_) (fun z1 => ?_)
  ·
    refine V_iload_n dX8_hasWanted_20 rfl rfl ?_
    refine V_istore_n dX8_hasWanted_21 rfl (Nat.le_of_ble_eq_true rfl) ?_
    refine V_iconst dX8_hasWanted_22 ic_0 ?_
    refine V_istore_n dX8_hasWanted_23 rfl (Nat.le_of_ble_eq_true rfl) ?_
    exact V_sub (by exact (And.intro rfl (And.intro rfl (And.intro rfl (And.intro rfl True.intro))))) (q1 z1)
  ·
    refine V_aload_n dX8_hasWanted_7 rfl rfl ?_
    refine V_get (ci := 8) (j := 5) (C0 := RX8) (T := TX8) (N := 33) dX8_hasWanted_8 rfl g42 (by decide) (by decide) kf_X8_16 rfl ?_
    refine V_iload_n dX8_hasWanted_11 rfl rfl ?_
    refine V_iconst dX8_hasWanted_12 ic_0 ?_
    refine V_iast dX8_hasWanted_13 g45 (q2 z1) ?_
    refine V_inc dX8_hasWanted_14 ic_1 rfl (Nat.le_of_ble_eq_true rfl) ?_
    refine V_goto (t := 2) dX8_hasWanted_17 (by decide) ?_
    exact V_sub (by exact (And.intro rfl (And.intro rfl (And.intro rfl True.intro)))) (q3 z1)
theorem tX8_hasWanted_24 {G : gx} {b : bg} {h : ah} {Q : Option Value → ah → Prop} {x1 : Int32} {x2 : Int32} {x3 : Int32} {mk : Int32} {mn : Int32} {mall : Int32} {msum : Int32} {mexchanges : Int32} {mcycleMany : Int32} {mwhich : Int32} {mlatest : Int32} {mfirstFound : Int32} {mpartMany : Int32} {mlength : Int32} {mhad : Nat → Int32} (g42 : h 42 = (8, .inl [.int mk, .int mn, .int mall, .ref 43, .ref 44, .ref 45, .ref 46, .int msum, .ref 47, .int mexchanges, .ref 48, .ref 49, .ref 50, .ref 51, .int mcycleMany, .ref 52, .int mwhich, .ref 53, .ref 54, .ref 55, .ref 56, .ref 57, .ref 58, .int mlatest, .int mfirstFound, .int mpartMany, .ref 59, .int mlength, .ref 60, .ref 61, .ref 62, .ref 63, .ref 64])) (g45 : h 45 = (0, .inr (5, .inl mhad))) (q1 : (mn ≤ x3) → V G mX8_hasWanted b 65 [some (.ref 42), some (.int x1), some (.int x2), some (.int (1 : Int32)), some (.int (0 : Int32))] [] h Q) (q2 : (¬ mn ≤ x3) → ¬ mk = 0) (q3 : (¬ mn ≤ x3) → vp_in (x2 - x2 / mk * mk) 5) (q4 : (¬ mn ≤ x3) → vp_in (x2 - x2 / mk * mk) 5) (q5 : (¬ mn ≤ x3) → ¬ mk = 0) (q6 : (¬ mn ≤ x3) → V G mX8_hasWanted b 24 [some (.ref 42), some (.int x1), some (.int (x2 / mk)), some (.int (x3 + (1 : Int32)))] [] (va_up h 45 (0, .inr (5, .inl (upd mhad (x2 - x2 / mk * mk).toNatClampNeg ((mhad (x2 - x2 / mk * mk).toNatClampNeg) + (1 : Int32)))))) Q) : V G mX8_hasWanted b 24 [some (.ref 42), some (.int x1), some (.int x2), some (.int x3)] [] h Q := by
  refine V_iload_n dX8_hasWanted_24 rfl rfl ?_
  refine V_aload_n dX8_hasWanted_25 rfl rfl ?_
  refine V_get (ci := 8) (j := 1) (C0 := RX8) (T := TX8) (N := 33) dX8_hasWanted_26 rfl g42 (by decide) (by decide) kf_X8_96 rfl ?_
  refine V_icmp_ge (t := 60) dX8_hasWanted_29 (by decide) (fun z1 => ?_) (fun z1 => ?_)
  ·
    refine V_iconst dX8_hasWanted_60 ic_1 ?_
    refine V_istore_n dX8_hasWanted_61 rfl (Nat.le_of_ble_eq_true rfl) ?_
    refine V_iconst dX8_hasWanted_62 ic_0 ?_
    refine V_istore dX8_hasWanted_63 (Nat.le_of_ble_eq_true rfl) ?_
    exact V_sub (by exact (And.intro rfl (And.intro rfl (And.intro rfl (And.intro rfl (And.intro rfl True.intro)))))) (q1 z1)
  ·
    refine V_aload_n dX8_hasWanted_32 rfl rfl ?_
    refine V_get (ci := 8) (j := 5) (C0 := RX8) (T := TX8) (N := 33) dX8_hasWanted_33 rfl g42 (by decide) (by decide) kf_X8_16 rfl ?_
    refine V_iload_n dX8_hasWanted_36 rfl rfl ?_
    refine V_aload_n dX8_hasWanted_37 rfl rfl ?_
    refine V_get (ci := 8) (j := 0) (C0 := RX8) (T := TX8) (N := 33) dX8_hasWanted_38 rfl g42 (by decide) (by decide) kf_X8_92 rfl ?_
    refine V_irem dX8_hasWanted_41 (q2 z1) ?_
    refine V_dup2 dX8_hasWanted_42 rfl rfl ?_
    refine V_iald dX8_hasWanted_43 g45 (q3 z1) ?_
    refine V_iconst dX8_hasWanted_44 ic_1 ?_
    refine V_iadd dX8_hasWanted_45 ?_
    refine V_iast dX8_hasWanted_46 g45 (q4 z1) ?_
    refine V_iload_n dX8_hasWanted_47 rfl rfl ?_
    refine V_aload_n dX8_hasWanted_48 rfl rfl ?_
    refine V_get (ci := 8) (j := 0) (C0 := RX8) (T := TX8) (N := 33) dX8_hasWanted_49 rfl g42 (by decide) (by decide) kf_X8_92 rfl ?_
    refine V_idiv dX8_hasWanted_52 (q5 z1) ?_
    refine V_istore_n dX8_hasWanted_53 rfl (Nat.le_of_ble_eq_true rfl) ?_
    refine V_inc dX8_hasWanted_54 ic_1 rfl (Nat.le_of_ble_eq_true rfl) ?_
    refine V_goto (t := 24) dX8_hasWanted_57 (by decide) ?_
    exact V_sub (by exact (And.intro rfl (And.intro rfl (And.intro rfl (And.intro rfl True.intro))))) (q6 z1)
theorem tX8_hasWanted_65 {G : gx} {b : bg} {h : ah} {Q : Option Value → ah → Prop} {x1 : Int32} {x2 : Int32} {x3 : Int32} {x4 : Int32} {mk : Int32} {mn : Int32} {mall : Int32} {msum : Int32} {mexchanges : Int32} {mcycleMany : Int32} {mwhich : Int32} {mlatest : Int32} {mfirstFound : Int32} {mpartMany : Int32} {mlength : Int32} {mhad : Nat → Int32} {mwanted : Nat → Int32} (g42 : h 42 = (8, .inl [.int mk, .int mn, .int mall, .ref 43, .ref 44, .ref 45, .ref 46, .int msum, .ref 47, .int mexchanges, .ref 48, .ref 49, .ref 50, .ref 51, .int mcycleMany, .ref 52, .int mwhich, .ref 53, .ref 54, .ref 55, .ref 56, .ref 57, .ref 58, .int mlatest, .int mfirstFound, .int mpartMany, .ref 59, .int mlength, .ref 60, .ref 61, .ref 62, .ref 63, .ref 64])) (g45 : h 45 = (0, .inr (5, .inl mhad))) (g44 : h 44 = (0, .inr (5, .inl mwanted))) (q1 : ((5 : Int32) ≤ x4) → Q (some (.int x3)) h) (q2 : ((5 : Int32) ≤ x4) → narrow .boolean (.int x3) = .int x3) (q3 : (¬ (5 : Int32) ≤ x4) → (x3 = (0 : Int32)) → V G mX8_hasWanted b 65 [some (.ref 42), some (.int x1), some (.int x2), some (.int (0 : Int32)), some (.int (x4 + (1 : Int32)))] [] h Q) (q4 : (¬ (5 : Int32) ≤ x4) → (¬ x3 = (0 : Int32)) → vp_in x4 5) (q5 : (¬ (5 : Int32) ≤ x4) → (¬ x3 = (0 : Int32)) → vp_in x4 5) (q6 : (¬ (5 : Int32) ≤ x4) → (¬ x3 = (0 : Int32)) → (¬ (mhad x4.toNatClampNeg) = (mwanted x4.toNatClampNeg)) → V G mX8_hasWanted b 65 [some (.ref 42), some (.int x1), some (.int x2), some (.int (0 : Int32)), some (.int (x4 + (1 : Int32)))] [] h Q) (q7 : (¬ (5 : Int32) ≤ x4) → (¬ x3 = (0 : Int32)) → ((mhad x4.toNatClampNeg) = (mwanted x4.toNatClampNeg)) → V G mX8_hasWanted b 65 [some (.ref 42), some (.int x1), some (.int x2), some (.int (1 : Int32)), some (.int (x4 + (1 : Int32)))] [] h Q) : V G mX8_hasWanted b 65 [some (.ref 42), some (.int x1), some (.int x2), some (.int x3), some (.int x4)] [] h Q := by
  refine V_iload dX8_hasWanted_65 rfl ?_
  refine V_iconst dX8_hasWanted_67 ic_5 ?_
  refine V_icmp_ge (t := 104) dX8_hasWanted_68 (by decide) (fun z1 => ?_) (fun z1 => ?_)
  ·
    refine V_iload_n dX8_hasWanted_104 rfl rfl ?_
    exact V_zret dX8_hasWanted_105 rfl (q2 z1) (q1 z1)
  ·
    refine V_iload_n dX8_hasWanted_71 rfl rfl ?_
    refine V_if_eq (t := 96) dX8_hasWanted_72 (by decide) (fun z2 => ?_) (fun z2 => ?_)
    ·
      refine V_iconst dX8_hasWanted_96 ic_0 ?_
      refine V_istore_n dX8_hasWanted_97 rfl (Nat.le_of_ble_eq_true rfl) ?_
      refine V_inc dX8_hasWanted_98 ic_1 rfl (Nat.le_of_ble_eq_true rfl) ?_
      refine V_goto (t := 65) dX8_hasWanted_101 (by decide) ?_
      exact V_sub (by exact (And.intro rfl (And.intro rfl (And.intro rfl (And.intro rfl (And.intro rfl True.intro)))))) (q3 z1 z2)
    ·
      refine V_aload_n dX8_hasWanted_75 rfl rfl ?_
      refine V_get (ci := 8) (j := 5) (C0 := RX8) (T := TX8) (N := 33) dX8_hasWanted_76 rfl g42 (by decide) (by decide) kf_X8_16 rfl ?_
      refine V_iload dX8_hasWanted_79 rfl ?_
      refine V_iald dX8_hasWanted_81 g45 (q4 z1 z2) ?_
      refine V_aload_n dX8_hasWanted_82 rfl rfl ?_
      refine V_get (ci := 8) (j := 4) (C0 := RX8) (T := TX8) (N := 33) dX8_hasWanted_83 rfl g42 (by decide) (by decide) kf_X8_13 rfl ?_
      refine V_iload dX8_hasWanted_86 rfl ?_
      refine V_iald dX8_hasWanted_88 g44 (q5 z1 z2) ?_
      refine V_icmp_ne (t := 96) dX8_hasWanted_89 (by decide) (fun z3 => ?_) (fun z3 => ?_)
      ·
        refine V_iconst dX8_hasWanted_96 ic_0 ?_
        refine V_istore_n dX8_hasWanted_97 rfl (Nat.le_of_ble_eq_true rfl) ?_
        refine V_inc dX8_hasWanted_98 ic_1 rfl (Nat.le_of_ble_eq_true rfl) ?_
        refine V_goto (t := 65) dX8_hasWanted_101 (by decide) ?_
        exact V_sub (by exact (And.intro rfl (And.intro rfl (And.intro rfl (And.intro rfl (And.intro rfl True.intro)))))) (q6 z1 z2 z3)
      ·
        refine V_iconst dX8_hasWanted_92 ic_1 ?_
        refine V_goto (t := 97) dX8_hasWanted_93 (by decide) ?_
        refine V_istore_n dX8_hasWanted_97 rfl (Nat.le_of_ble_eq_true rfl) ?_
        refine V_inc dX8_hasWanted_98 ic_1 rfl (Nat.le_of_ble_eq_true rfl) ?_
        refine V_goto (t := 65) dX8_hasWanted_101 (by decide) ?_
        exact V_sub (by exact (And.intro rfl (And.intro rfl (And.intro rfl (And.intro rfl (And.intro rfl True.intro)))))) (q7 z1 z2 z3)
theorem tX8_lead_0 {G : gx} {b : bg} {h : ah} {Q : Option Value → ah → Prop} {mk : Int32} {mn : Int32} {mall : Int32} {msum : Int32} {mexchanges : Int32} {mcycleMany : Int32} {mwhich : Int32} {mlatest : Int32} {mfirstFound : Int32} {mpartMany : Int32} {mlength : Int32} (g42 : h 42 = (8, .inl [.int mk, .int mn, .int mall, .ref 43, .ref 44, .ref 45, .ref 46, .int msum, .ref 47, .int mexchanges, .ref 48, .ref 49, .ref 50, .ref 51, .int mcycleMany, .ref 52, .int mwhich, .ref 53, .ref 54, .ref 55, .ref 56, .ref 57, .ref 58, .int mlatest, .int mfirstFound, .int mpartMany, .ref 59, .int mlength, .ref 60, .ref 61, .ref 62, .ref 63, .ref 64])) (q1 : ¬ mk = 0) (q2 : V G mX8_lead b 17 [some (.ref 42), some (.int (mall / mk)), some (.int (0 : Int32))] [] (va_up h 42 (8, .inl [.int mk, .int mn, .int mall, .ref 43, .ref 44, .ref 45, .ref 46, .int msum, .ref 47, .int (0 : Int32), .ref 48, .ref 49, .ref 50, .ref 51, .int mcycleMany, .ref 52, .int mwhich, .ref 53, .ref 54, .ref 55, .ref 56, .ref 57, .ref 58, .int mlatest, .int mfirstFound, .int mpartMany, .ref 59, .int mlength, .ref 60, .ref 61, .ref 62, .ref 63, .ref 64])) Q) : V G mX8_lead b 0 [some (.ref 42)] [] h Q := by
  refine V_aload_n dX8_lead_0 rfl rfl ?_
  refine V_iconst dX8_lead_1 ic_0 ?_
  refine V_put (ci := 8) (j := 9) (C0 := RX8) (T := TX8) (N := 33) (ty := .int) dX8_lead_2 rfl g42 (by decide) (by decide) kf_X8_133 rfl (by decide +kernel) rfl rfl (Nat.le_of_ble_eq_true rfl) ?_
  refine V_aload_n dX8_lead_5 rfl rfl ?_
  refine V_get (ci := 8) (j := 2) (C0 := RX8) (T := TX8) (N := 33) dX8_lead_6 rfl rfl (by decide) (by decide) kf_X8_99 rfl ?_
  refine V_aload_n dX8_lead_9 rfl rfl ?_
  refine V_get (ci := 8) (j := 0) (C0 := RX8) (T := TX8) (N := 33) dX8_lead_10 rfl rfl (by decide) (by decide) kf_X8_92 rfl ?_
  refine V_idiv dX8_lead_13 (q1) ?_
  refine V_istore_n dX8_lead_14 rfl (Nat.le_of_ble_eq_true rfl) ?_
  refine V_iconst dX8_lead_15 ic_0 ?_
  refine V_istore_n dX8_lead_16 rfl (Nat.le_of_ble_eq_true rfl) ?_
  exact V_sub (by exact (And.intro rfl (And.intro rfl (And.intro rfl True.intro)))) (q2)
theorem tX8_lead_17 {G : gx} {b : bg} {h : ah} {Q : Option Value → ah → Prop} {x1 : Int32} {x2 : Int32} {mk : Int32} {mn : Int32} {mall : Int32} {msum : Int32} {mexchanges : Int32} {mcycleMany : Int32} {mwhich : Int32} {mlatest : Int32} {mfirstFound : Int32} {mpartMany : Int32} {mlength : Int32} (g42 : h 42 = (8, .inl [.int mk, .int mn, .int mall, .ref 43, .ref 44, .ref 45, .ref 46, .int msum, .ref 47, .int mexchanges, .ref 48, .ref 49, .ref 50, .ref 51, .int mcycleMany, .ref 52, .int mwhich, .ref 53, .ref 54, .ref 55, .ref 56, .ref 57, .ref 58, .int mlatest, .int mfirstFound, .int mpartMany, .ref 59, .int mlength, .ref 60, .ref 61, .ref 62, .ref 63, .ref 64])) (q1 : (mall ≤ x2) → Q none h) (q2 : (¬ mall ≤ x2) → V G mX8_lead b 41 [some (.ref 42), some (.int x1), some (.int x2), some (.int msum), some (.int x2), some (.int (mn - (1 : Int32)))] [] h Q) : V G mX8_lead b 17 [some (.ref 42), some (.int x1), some (.int x2)] [] h Q := by
  refine V_iload_n dX8_lead_17 rfl rfl ?_
  refine V_aload_n dX8_lead_18 rfl rfl ?_
  refine V_get (ci := 8) (j := 2) (C0 := RX8) (T := TX8) (N := 33) dX8_lead_19 rfl g42 (by decide) (by decide) kf_X8_99 rfl ?_
  refine V_icmp_ge (t := 106) dX8_lead_22 (by decide) (fun z1 => ?_) (fun z1 => ?_)
  ·
    exact V_vret dX8_lead_106 rfl (q1 z1)
  ·
    refine V_aload_n dX8_lead_25 rfl rfl ?_
    refine V_get (ci := 8) (j := 7) (C0 := RX8) (T := TX8) (N := 33) dX8_lead_26 rfl g42 (by decide) (by decide) kf_X8_106 rfl ?_
    refine V_istore_n dX8_lead_29 rfl (Nat.le_of_ble_eq_true rfl) ?_
    refine V_iload_n dX8_lead_30 rfl rfl ?_
    refine V_istore dX8_lead_31 (Nat.le_of_ble_eq_true rfl) ?_
    refine V_aload_n dX8_lead_33 rfl rfl ?_
    refine V_get (ci := 8) (j := 1) (C0 := RX8) (T := TX8) (N := 33) dX8_lead_34 rfl g42 (by decide) (by decide) kf_X8_96 rfl ?_
    refine V_iconst dX8_lead_37 ic_1 ?_
    refine V_isub dX8_lead_38 ?_
    refine V_istore dX8_lead_39 (Nat.le_of_ble_eq_true rfl) ?_
    exact V_sub (by exact (And.intro rfl (And.intro rfl (And.intro rfl (And.intro rfl (And.intro rfl (And.intro rfl True.intro))))))) (q2 z1)
theorem tX8_lead_41 {G : gx} {b : bg} {h : ah} {Q : Option Value → ah → Prop} {x1 : Int32} {x2 : Int32} {x3 : Int32} {x4 : Int32} {x5 : Int32} {mk : Int32} {mn : Int32} {mall : Int32} {msum : Int32} {mexchanges : Int32} {mcycleMany : Int32} {mwhich : Int32} {mlatest : Int32} {mfirstFound : Int32} {mpartMany : Int32} {mlength : Int32} {mto : Nat → Int32} {mfactors : Nat → Int32} (g42 : h 42 = (8, .inl [.int mk, .int mn, .int mall, .ref 43, .ref 44, .ref 45, .ref 46, .int msum, .ref 47, .int mexchanges, .ref 48, .ref 49, .ref 50, .ref 51, .int mcycleMany, .ref 52, .int mwhich, .ref 53, .ref 54, .ref 55, .ref 56, .ref 57, .ref 58, .int mlatest, .int mfirstFound, .int mpartMany, .ref 59, .int mlength, .ref 60, .ref 61, .ref 62, .ref 63, .ref 64])) (g47 : h 47 = (0, .inr (20000, .inl mto))) (g46 : h 46 = (0, .inr (14, .inl mfactors))) (q1 : (x5 < (0 : Int32)) → ¬ x1 = 0) (q2 : (x5 < (0 : Int32)) → ¬ mk = 0) (q3 : (x5 < (0 : Int32)) → vp_in x2 20000) (q4 : (x5 < (0 : Int32)) → V G mX8_lead b 17 [some (.ref 42), some (.int x1), some (.int (x2 + (1 : Int32)))] [] (va_up h 47 (0, .inr (20000, .inl (upd mto x2.toNatClampNeg (((x2 - x2 / x1 * x1) * mk) + (x3 - x3 / mk * mk)))))) Q) (q5 : (¬ x5 < (0 : Int32)) → vp_in x5 14) (q6 : (¬ x5 < (0 : Int32)) → ¬ mk = 0) (q7 : (¬ x5 < (0 : Int32)) → ¬ mk = 0) (q8 : (¬ x5 < (0 : Int32)) → V G mX8_lead b 41 [some (.ref 42), some (.int x1), some (.int x2), some (.int (x3 + ((mfactors x5.toNatClampNeg) * (x4 - x4 / mk * mk)))), some (.int (x4 / mk)), some (.int (x5 + (-1 : Int32)))] [] h Q) : V G mX8_lead b 41 [some (.ref 42), some (.int x1), some (.int x2), some (.int x3), some (.int x4), some (.int x5)] [] h Q := by
  refine V_iload dX8_lead_41 rfl ?_
  refine V_if_lt (t := 79) dX8_lead_43 (by decide) (fun z1 => ?_) (fun z1 => ?_)
  ·
    refine V_aload_n dX8_lead_79 rfl rfl ?_
    refine V_get (ci := 8) (j := 8) (C0 := RX8) (T := TX8) (N := 33) dX8_lead_80 rfl g42 (by decide) (by decide) kf_X8_22 rfl ?_
    refine V_iload_n dX8_lead_83 rfl rfl ?_
    refine V_iload_n dX8_lead_84 rfl rfl ?_
    refine V_iload_n dX8_lead_85 rfl rfl ?_
    refine V_irem dX8_lead_86 (q1 z1) ?_
    refine V_aload_n dX8_lead_87 rfl rfl ?_
    refine V_get (ci := 8) (j := 0) (C0 := RX8) (T := TX8) (N := 33) dX8_lead_88 rfl g42 (by decide) (by decide) kf_X8_92 rfl ?_
    refine V_imul dX8_lead_91 ?_
    refine V_iload_n dX8_lead_92 rfl rfl ?_
    refine V_aload_n dX8_lead_93 rfl rfl ?_
    refine V_get (ci := 8) (j := 0) (C0 := RX8) (T := TX8) (N := 33) dX8_lead_94 rfl g42 (by decide) (by decide) kf_X8_92 rfl ?_
    refine V_irem dX8_lead_97 (q2 z1) ?_
    refine V_iadd dX8_lead_98 ?_
    refine V_iast dX8_lead_99 g47 (q3 z1) ?_
    refine V_inc dX8_lead_100 ic_1 rfl (Nat.le_of_ble_eq_true rfl) ?_
    refine V_goto (t := 17) dX8_lead_103 (by decide) ?_
    exact V_sub (by exact (And.intro rfl (And.intro rfl (And.intro rfl True.intro)))) (q4 z1)
  ·
    refine V_iload_n dX8_lead_46 rfl rfl ?_
    refine V_aload_n dX8_lead_47 rfl rfl ?_
    refine V_get (ci := 8) (j := 6) (C0 := RX8) (T := TX8) (N := 33) dX8_lead_48 rfl g42 (by decide) (by decide) kf_X8_19 rfl ?_
    refine V_iload dX8_lead_51 rfl ?_
    refine V_iald dX8_lead_53 g46 (q5 z1) ?_
    refine V_iload dX8_lead_54 rfl ?_
    refine V_aload_n dX8_lead_56 rfl rfl ?_
    refine V_get (ci := 8) (j := 0) (C0 := RX8) (T := TX8) (N := 33) dX8_lead_57 rfl g42 (by decide) (by decide) kf_X8_92 rfl ?_
    refine V_irem dX8_lead_60 (q6 z1) ?_
    refine V_imul dX8_lead_61 ?_
    refine V_iadd dX8_lead_62 ?_
    refine V_istore_n dX8_lead_63 rfl (Nat.le_of_ble_eq_true rfl) ?_
    refine V_iload dX8_lead_64 rfl ?_
    refine V_aload_n dX8_lead_66 rfl rfl ?_
    refine V_get (ci := 8) (j := 0) (C0 := RX8) (T := TX8) (N := 33) dX8_lead_67 rfl g42 (by decide) (by decide) kf_X8_92 rfl ?_
    refine V_idiv dX8_lead_70 (q7 z1) ?_
    refine V_istore dX8_lead_71 (Nat.le_of_ble_eq_true rfl) ?_
    refine V_inc dX8_lead_73 ic_m1 rfl (Nat.le_of_ble_eq_true rfl) ?_
    refine V_goto (t := 41) dX8_lead_76 (by decide) ?_
    exact V_sub (by exact (And.intro rfl (And.intro rfl (And.intro rfl (And.intro rfl (And.intro rfl (And.intro rfl True.intro))))))) (q8 z1)
theorem tX8_factor_0 {G : gx} {b : bg} {h : ah} {Q : Option Value → ah → Prop} {x1 : Int32} {x2 : Int32} {mk : Int32} {mn : Int32} {mall : Int32} {msum : Int32} {mexchanges : Int32} {mcycleMany : Int32} {mwhich : Int32} {mlatest : Int32} {mfirstFound : Int32} {mpartMany : Int32} {mlength : Int32} (g42 : h 42 = (8, .inl [.int mk, .int mn, .int mall, .ref 43, .ref 44, .ref 45, .ref 46, .int msum, .ref 47, .int mexchanges, .ref 48, .ref 49, .ref 50, .ref 51, .int mcycleMany, .ref 52, .int mwhich, .ref 53, .ref 54, .ref 55, .ref 56, .ref 57, .ref 58, .int mlatest, .int mfirstFound, .int mpartMany, .ref 59, .int mlength, .ref 60, .ref 61, .ref 62, .ref 63, .ref 64])) (q1 : V G mX8_factor b 10 [some (.ref 42), some (.int x1), some (.int x2)] [.long ((mn - (1 : Int32)).toInt64), .long (0 : Int64), .long (x1.toInt64)] h Q) : V G mX8_factor b 0 [some (.ref 42), some (.int x1), some (.int x2)] [] h Q := by
  refine V_iload_n dX8_factor_0 rfl rfl ?_
  refine V_i2l dX8_factor_1 ?_
  refine V_lconst dX8_factor_2 lc_0 ?_
  refine V_aload_n dX8_factor_3 rfl rfl ?_
  refine V_get (ci := 8) (j := 1) (C0 := RX8) (T := TX8) (N := 33) dX8_factor_4 rfl g42 (by decide) (by decide) kf_X8_96 rfl ?_
  refine V_iconst dX8_factor_7 ic_1 ?_
  refine V_isub dX8_factor_8 ?_
  refine V_i2l dX8_factor_9 ?_
  exact V_sub (by exact (And.intro rfl (And.intro rfl (And.intro rfl True.intro)))) (q1)
theorem tX8_factor_13 {G : gx} {b : bg} {h : ah} {Q : Option Value → ah → Prop} {x1 : Int32} {x2 : Int32} {s0 : Int32} {mk : Int32} {mn : Int32} {mall : Int32} {msum : Int32} {mexchanges : Int32} {mcycleMany : Int32} {mwhich : Int32} {mlatest : Int32} {mfirstFound : Int32} {mpartMany : Int32} {mlength : Int32} (g42 : h 42 = (8, .inl [.int mk, .int mn, .int mall, .ref 43, .ref 44, .ref 45, .ref 46, .int msum, .ref 47, .int mexchanges, .ref 48, .ref 49, .ref 50, .ref 51, .int mcycleMany, .ref 52, .int mwhich, .ref 53, .ref 54, .ref 55, .ref 56, .ref 57, .ref 58, .int mlatest, .int mfirstFound, .int mpartMany, .ref 59, .int mlength, .ref 60, .ref 61, .ref 62, .ref 63, .ref 64])) (q1 : (s0 = (0 : Int32)) → Q (some (.int (-2 : Int32))) h) (q2 : (¬ s0 = (0 : Int32)) → V G mX8_factor b 26 [some (.ref 42), some (.int x1), some (.int x2)] [.long ((mk - (1 : Int32)).toInt64), .long (0 : Int64), .long (x2.toInt64)] h Q) : V G mX8_factor b 13 [some (.ref 42), some (.int x1), some (.int x2)] [.int s0] h Q := by
  refine V_if_eq (t := 32) dX8_factor_13 (by decide) (fun z1 => ?_) (fun z1 => ?_)
  ·
    refine V_bipush dX8_factor_32 bp_m2 ?_
    exact V_iret dX8_factor_34 rfl (q1 z1)
  ·
    refine V_iload_n dX8_factor_16 rfl rfl ?_
    refine V_i2l dX8_factor_17 ?_
    refine V_lconst dX8_factor_18 lc_0 ?_
    refine V_aload_n dX8_factor_19 rfl rfl ?_
    refine V_get (ci := 8) (j := 0) (C0 := RX8) (T := TX8) (N := 33) dX8_factor_20 rfl g42 (by decide) (by decide) kf_X8_92 rfl ?_
    refine V_iconst dX8_factor_23 ic_1 ?_
    refine V_isub dX8_factor_24 ?_
    refine V_i2l dX8_factor_25 ?_
    exact V_sub (by exact (And.intro rfl (And.intro rfl (And.intro rfl True.intro)))) (q2 z1)
theorem tX8_factor_29 {G : gx} {b : bg} {h : ah} {Q : Option Value → ah → Prop} {x1 : Int32} {x2 : Int32} {s0 : Int32} {mk : Int32} {mn : Int32} {mall : Int32} {msum : Int32} {mexchanges : Int32} {mcycleMany : Int32} {mwhich : Int32} {mlatest : Int32} {mfirstFound : Int32} {mpartMany : Int32} {mlength : Int32} {mfactors : Nat → Int32} (g42 : h 42 = (8, .inl [.int mk, .int mn, .int mall, .ref 43, .ref 44, .ref 45, .ref 46, .int msum, .ref 47, .int mexchanges, .ref 48, .ref 49, .ref 50, .ref 51, .int mcycleMany, .ref 52, .int mwhich, .ref 53, .ref 54, .ref 55, .ref 56, .ref 57, .ref 58, .int mlatest, .int mfirstFound, .int mpartMany, .ref 59, .int mlength, .ref 60, .ref 61, .ref 62, .ref 63, .ref 64])) (g46 : h 46 = (0, .inr (14, .inl mfactors))) (q1 : (¬ s0 = (0 : Int32)) → vp_in x1 14) (q2 : (¬ s0 = (0 : Int32)) → vp_in x1 14) (q3 : (¬ s0 = (0 : Int32)) → V G mX8_factor b 50 [some (.ref 42), some (.int x1), some (.int x2), some (.int (mfactors x1.toNatClampNeg))] [.ref 42] (va_up h 46 (0, .inr (14, .inl (upd mfactors x1.toNatClampNeg x2)))) Q) (q4 : (s0 = (0 : Int32)) → Q (some (.int (-2 : Int32))) h) : V G mX8_factor b 29 [some (.ref 42), some (.int x1), some (.int x2)] [.int s0] h Q := by
  refine V_if_ne (t := 35) dX8_factor_29 (by decide) (fun z1 => ?_) (fun z1 => ?_)
  ·
    refine V_aload_n dX8_factor_35 rfl rfl ?_
    refine V_get (ci := 8) (j := 6) (C0 := RX8) (T := TX8) (N := 33) dX8_factor_36 rfl g42 (by decide) (by decide) kf_X8_19 rfl ?_
    refine V_iload_n dX8_factor_39 rfl rfl ?_
    refine V_iald dX8_factor_40 g46 (q1 z1) ?_
    refine V_istore_n dX8_factor_41 rfl (Nat.le_of_ble_eq_true rfl) ?_
    refine V_aload_n dX8_factor_42 rfl rfl ?_
    refine V_get (ci := 8) (j := 6) (C0 := RX8) (T := TX8) (N := 33) dX8_factor_43 rfl g42 (by decide) (by decide) kf_X8_19 rfl ?_
    refine V_iload_n dX8_factor_46 rfl rfl ?_
    refine V_iload_n dX8_factor_47 rfl rfl ?_
    refine V_iast dX8_factor_48 g46 (q2 z1) ?_
    refine V_aload_n dX8_factor_49 rfl rfl ?_
    exact V_sub (by exact (And.intro rfl (And.intro rfl (And.intro rfl (And.intro rfl True.intro))))) (q3 z1)
  ·
    refine V_bipush dX8_factor_32 bp_m2 ?_
    exact V_iret dX8_factor_34 rfl (q4 z1)
theorem tX8_factor_53 {G : gx} {b : bg} {h : ah} {Q : Option Value → ah → Prop} {x1 : Int32} {x2 : Int32} {x3 : Int32} (q1 : Q (some (.int x3)) h) : V G mX8_factor b 53 [some (.ref 42), some (.int x1), some (.int x2), some (.int x3)] [] h Q := by
  refine V_iload_n dX8_factor_53 rfl rfl ?_
  exact V_iret dX8_factor_54 rfl (q1)
theorem cX8_factor_10 {G : gx} {d mc ms cc zz d2 mc2 ms2 : Nat} {L : List (Option Value)} {S : List Value} {h : ah} {Q Q2 : Option Value → ah → Prop} {a0 a1 a2 : Value} (hM : Ct G mX8_in d2 mc2 ms2 [a0, a1, a2] h Q2) (hdd : d2 < d ∧ d ≤ 9) (hrm : (S.map fun v => v.category).sum ≤ 8) (hf : cc + mc2 ≤ mc ∧ zz + ms2 ≤ ms) (kk : ∀ r h2, Q2 r h2 → V G mX8_factor (d, mc, ms, cc + mc2, zz + ms2) 13 L (r.toList ++ S) h2 Q) : V G mX8_factor (d, mc, ms, cc, zz) 10 L (a2 :: a1 :: a0 :: S) h Q := V_callS hM dX8_factor_10 ⟨km_X8_86, kt_X8_in⟩ cw_X8_in hdd rfl rfl hrm hf kk
theorem cX8_factor_26 {G : gx} {d mc ms cc zz d2 mc2 ms2 : Nat} {L : List (Option Value)} {S : List Value} {h : ah} {Q Q2 : Option Value → ah → Prop} {a0 a1 a2 : Value} (hM : Ct G mX8_in d2 mc2 ms2 [a0, a1, a2] h Q2) (hdd : d2 < d ∧ d ≤ 9) (hrm : (S.map fun v => v.category).sum ≤ 8) (hf : cc + mc2 ≤ mc ∧ zz + ms2 ≤ ms) (kk : ∀ r h2, Q2 r h2 → V G mX8_factor (d, mc, ms, cc + mc2, zz + ms2) 29 L (r.toList ++ S) h2 Q) : V G mX8_factor (d, mc, ms, cc, zz) 26 L (a2 :: a1 :: a0 :: S) h Q := V_callS hM dX8_factor_26 ⟨km_X8_86, kt_X8_in⟩ cw_X8_in hdd rfl rfl hrm hf kk
theorem cX8_factor_50 {G : gx} {d mc ms cc zz d2 mc2 ms2 : Nat} {L : List (Option Value)} {S : List Value} {h : ah} {Q Q2 : Option Value → ah → Prop} {k : Nat} {fs : List Value} (hM : Ct G mX8_lead d2 mc2 ms2 (.ref (k + 2) :: []) h Q2) (hc : h (k + 2) = (8, .inl fs)) (hdd : d2 < d ∧ d ≤ 9) (hrm : (S.map fun v => v.category).sum ≤ 8) (hf : cc + mc2 ≤ mc ∧ zz + ms2 ≤ ms) (kk : ∀ r h2, Q2 r h2 → V G mX8_factor (d, mc, ms, cc + mc2, zz + ms2) 53 L (r.toList ++ S) h2 Q) : V G mX8_factor (d, mc, ms, cc, zz) 50 L (.ref (k + 2) :: S) h Q := V_callV (ci := 8) (T := TX8) (N := 33) hM dX8_factor_50 ⟨km_X8_109, ki_X8_lead, ks_X8_lead⟩ cw_X8_lead rfl hc (by decide) hdd rfl rfl hrm hf kk
theorem tX8_sum_0 {G : gx} {b : bg} {h : ah} {Q : Option Value → ah → Prop} {x1 : Int32} {mk : Int32} {mn : Int32} {mall : Int32} {msum : Int32} {mexchanges : Int32} {mcycleMany : Int32} {mwhich : Int32} {mlatest : Int32} {mfirstFound : Int32} {mpartMany : Int32} {mlength : Int32} (g42 : h 42 = (8, .inl [.int mk, .int mn, .int mall, .ref 43, .ref 44, .ref 45, .ref 46, .int msum, .ref 47, .int mexchanges, .ref 48, .ref 49, .ref 50, .ref 51, .int mcycleMany, .ref 52, .int mwhich, .ref 53, .ref 54, .ref 55, .ref 56, .ref 57, .ref 58, .int mlatest, .int mfirstFound, .int mpartMany, .ref 59, .int mlength, .ref 60, .ref 61, .ref 62, .ref 63, .ref 64])) (q1 : V G mX8_sum b 10 [some (.ref 42), some (.int x1)] [.long ((mk - (1 : Int32)).toInt64), .long (0 : Int64), .long (x1.toInt64)] h Q) : V G mX8_sum b 0 [some (.ref 42), some (.int x1)] [] h Q := by
  refine V_iload_n dX8_sum_0 rfl rfl ?_
  refine V_i2l dX8_sum_1 ?_
  refine V_lconst dX8_sum_2 lc_0 ?_
  refine V_aload_n dX8_sum_3 rfl rfl ?_
  refine V_get (ci := 8) (j := 0) (C0 := RX8) (T := TX8) (N := 33) dX8_sum_4 rfl g42 (by decide) (by decide) kf_X8_92 rfl ?_
  refine V_iconst dX8_sum_7 ic_1 ?_
  refine V_isub dX8_sum_8 ?_
  refine V_i2l dX8_sum_9 ?_
  exact V_sub (by exact (And.intro rfl (And.intro rfl True.intro))) (q1)
theorem tX8_sum_13 {G : gx} {b : bg} {h : ah} {Q : Option Value → ah → Prop} {x1 : Int32} {s0 : Int32} {mk : Int32} {mn : Int32} {mall : Int32} {msum : Int32} {mexchanges : Int32} {mcycleMany : Int32} {mwhich : Int32} {mlatest : Int32} {mfirstFound : Int32} {mpartMany : Int32} {mlength : Int32} (g42 : h 42 = (8, .inl [.int mk, .int mn, .int mall, .ref 43, .ref 44, .ref 45, .ref 46, .int msum, .ref 47, .int mexchanges, .ref 48, .ref 49, .ref 50, .ref 51, .int mcycleMany, .ref 52, .int mwhich, .ref 53, .ref 54, .ref 55, .ref 56, .ref 57, .ref 58, .int mlatest, .int mfirstFound, .int mpartMany, .ref 59, .int mlength, .ref 60, .ref 61, .ref 62, .ref 63, .ref 64])) (q1 : (¬ s0 = (0 : Int32)) → V G mX8_sum b 30 [some (.ref 42), some (.int x1), some (.int msum)] [.ref 42] (va_up h 42 (8, .inl [.int mk, .int mn, .int mall, .ref 43, .ref 44, .ref 45, .ref 46, .int x1, .ref 47, .int mexchanges, .ref 48, .ref 49, .ref 50, .ref 51, .int mcycleMany, .ref 52, .int mwhich, .ref 53, .ref 54, .ref 55, .ref 56, .ref 57, .ref 58, .int mlatest, .int mfirstFound, .int mpartMany, .ref 59, .int mlength, .ref 60, .ref 61, .ref 62, .ref 63, .ref 64])) Q) (q2 : (s0 = (0 : Int32)) → Q (some (.int (-2 : Int32))) h) : V G mX8_sum b 13 [some (.ref 42), some (.int x1)] [.int s0] h Q := by
  refine V_if_ne (t := 19) dX8_sum_13 (by decide) (fun z1 => ?_) (fun z1 => ?_)
  ·
    refine V_aload_n dX8_sum_19 rfl rfl ?_
    refine V_get (ci := 8) (j := 7) (C0 := RX8) (T := TX8) (N := 33) dX8_sum_20 rfl g42 (by decide) (by decide) kf_X8_106 rfl ?_
    refine V_istore_n dX8_sum_23 rfl (Nat.le_of_ble_eq_true rfl) ?_
    refine V_aload_n dX8_sum_24 rfl rfl ?_
    refine V_iload_n dX8_sum_25 rfl rfl ?_
    refine V_put (ci := 8) (j := 7) (C0 := RX8) (T := TX8) (N := 33) (ty := .int) dX8_sum_26 rfl g42 (by decide) (by decide) kf_X8_106 rfl (by decide +kernel) rfl rfl (Nat.le_of_ble_eq_true rfl) ?_
    refine V_aload_n dX8_sum_29 rfl rfl ?_
    exact V_sub (by exact (And.intro rfl (And.intro rfl (And.intro rfl True.intro)))) (q1 z1)
  ·
    refine V_bipush dX8_sum_16 bp_m2 ?_
    exact V_iret dX8_sum_18 rfl (q2 z1)
theorem tX8_sum_33 {G : gx} {b : bg} {h : ah} {Q : Option Value → ah → Prop} {x1 : Int32} {x2 : Int32} (q1 : Q (some (.int x2)) h) : V G mX8_sum b 33 [some (.ref 42), some (.int x1), some (.int x2)] [] h Q := by
  refine V_iload_n dX8_sum_33 rfl rfl ?_
  exact V_iret dX8_sum_34 rfl (q1)
theorem cX8_sum_10 {G : gx} {d mc ms cc zz d2 mc2 ms2 : Nat} {L : List (Option Value)} {S : List Value} {h : ah} {Q Q2 : Option Value → ah → Prop} {a0 a1 a2 : Value} (hM : Ct G mX8_in d2 mc2 ms2 [a0, a1, a2] h Q2) (hdd : d2 < d ∧ d ≤ 9) (hrm : (S.map fun v => v.category).sum ≤ 8) (hf : cc + mc2 ≤ mc ∧ zz + ms2 ≤ ms) (kk : ∀ r h2, Q2 r h2 → V G mX8_sum (d, mc, ms, cc + mc2, zz + ms2) 13 L (r.toList ++ S) h2 Q) : V G mX8_sum (d, mc, ms, cc, zz) 10 L (a2 :: a1 :: a0 :: S) h Q := V_callS hM dX8_sum_10 ⟨km_X8_86, kt_X8_in⟩ cw_X8_in hdd rfl rfl hrm hf kk
theorem cX8_sum_30 {G : gx} {d mc ms cc zz d2 mc2 ms2 : Nat} {L : List (Option Value)} {S : List Value} {h : ah} {Q Q2 : Option Value → ah → Prop} {k : Nat} {fs : List Value} (hM : Ct G mX8_lead d2 mc2 ms2 (.ref (k + 2) :: []) h Q2) (hc : h (k + 2) = (8, .inl fs)) (hdd : d2 < d ∧ d ≤ 9) (hrm : (S.map fun v => v.category).sum ≤ 8) (hf : cc + mc2 ≤ mc ∧ zz + ms2 ≤ ms) (kk : ∀ r h2, Q2 r h2 → V G mX8_sum (d, mc, ms, cc + mc2, zz + ms2) 33 L (r.toList ++ S) h2 Q) : V G mX8_sum (d, mc, ms, cc, zz) 30 L (.ref (k + 2) :: S) h Q := V_callV (ci := 8) (T := TX8) (N := 33) hM dX8_sum_30 ⟨km_X8_109, ki_X8_lead, ks_X8_lead⟩ cw_X8_lead rfl hc (by decide) hdd rfl rfl hrm hf kk
theorem tX8_go_0 {G : gx} {b : bg} {h : ah} {Q : Option Value → ah → Prop} {x1 : Int32} (q1 : V G mX8_go b 2 [some (.ref 42), some (.int x1)] [.int x1, .ref 42] h Q) : V G mX8_go b 0 [some (.ref 42), some (.int x1)] [] h Q := by
  refine V_aload_n dX8_go_0 rfl rfl ?_
  refine V_iload_n dX8_go_1 rfl rfl ?_
  exact V_sub (by exact (And.intro rfl (And.intro rfl True.intro))) (q1)
theorem tX8_go_5 {G : gx} {b : bg} {h : ah} {Q : Option Value → ah → Prop} {x1 : Int32} {s0 : Int32} {mk : Int32} {mn : Int32} {mall : Int32} {msum : Int32} {mexchanges : Int32} {mcycleMany : Int32} {mwhich : Int32} {mlatest : Int32} {mfirstFound : Int32} {mpartMany : Int32} {mlength : Int32} {mto : Nat → Int32} (g42 : h 42 = (8, .inl [.int mk, .int mn, .int mall, .ref 43, .ref 44, .ref 45, .ref 46, .int msum, .ref 47, .int mexchanges, .ref 48, .ref 49, .ref 50, .ref 51, .int mcycleMany, .ref 52, .int mwhich, .ref 53, .ref 54, .ref 55, .ref 56, .ref 57, .ref 58, .int mlatest, .int mfirstFound, .int mpartMany, .ref 59, .int mlength, .ref 60, .ref 61, .ref 62, .ref 63, .ref 64])) (g47 : h 47 = (0, .inr (20000, .inl mto))) (q1 : (s0 = (0 : Int32)) → Q (some (.int (-2 : Int32))) h) (q2 : (¬ s0 = (0 : Int32)) → vp_in x1 20000) (q3 : (¬ s0 = (0 : Int32)) → Q (some (.int (mto x1.toNatClampNeg))) h) : V G mX8_go b 5 [some (.ref 42), some (.int x1)] [.int s0] h Q := by
  refine V_if_eq (t := 17) dX8_go_5 (by decide) (fun z1 => ?_) (fun z1 => ?_)
  ·
    refine V_bipush dX8_go_17 bp_m2 ?_
    exact V_iret dX8_go_19 rfl (q1 z1)
  ·
    refine V_aload_n dX8_go_8 rfl rfl ?_
    refine V_get (ci := 8) (j := 8) (C0 := RX8) (T := TX8) (N := 33) dX8_go_9 rfl g42 (by decide) (by decide) kf_X8_22 rfl ?_
    refine V_iload_n dX8_go_12 rfl rfl ?_
    refine V_iald dX8_go_13 g47 (q2 z1) ?_
    refine V_goto (t := 19) dX8_go_14 (by decide) ?_
    exact V_iret dX8_go_19 rfl (q3 z1)
theorem cX8_go_2 {G : gx} {d mc ms cc zz d2 mc2 ms2 : Nat} {L : List (Option Value)} {S : List Value} {h : ah} {Q Q2 : Option Value → ah → Prop} {k : Nat} {fs : List Value} {a0 : Value} (hM : Ct G mX8_isWord d2 mc2 ms2 (.ref (k + 2) :: [a0]) h Q2) (hc : h (k + 2) = (8, .inl fs)) (hdd : d2 < d ∧ d ≤ 9) (hrm : (S.map fun v => v.category).sum ≤ 8) (hf : cc + mc2 ≤ mc ∧ zz + ms2 ≤ ms) (kk : ∀ r h2, Q2 r h2 → V G mX8_go (d, mc, ms, cc + mc2, zz + ms2) 5 L (r.toList ++ S) h2 Q) : V G mX8_go (d, mc, ms, cc, zz) 2 L (a0 :: .ref (k + 2) :: S) h Q := V_callV (ci := 8) (T := TX8) (N := 33) hM dX8_go_2 ⟨km_X8_121, ki_X8_isWord, ks_X8_isWord⟩ cw_X8_isWord rfl hc (by decide) hdd rfl rfl hrm hf kk
theorem tX8_isRight_0 {G : gx} {b : bg} {h : ah} {Q : Option Value → ah → Prop} (q1 : V G mX8_isRight b 2 [some (.ref 42), some (.int (0 : Int32))] [] h Q) : V G mX8_isRight b 0 [some (.ref 42)] [] h Q := by
  refine V_iconst dX8_isRight_0 ic_0 ?_
  refine V_istore_n dX8_isRight_1 rfl (Nat.le_of_ble_eq_true rfl) ?_
  exact V_sub (by exact (And.intro rfl (And.intro rfl True.intro))) (q1)
theorem tX8_isRight_2 {G : gx} {b : bg} {h : ah} {Q : Option Value → ah → Prop} {x1 : Int32} {mk : Int32} {mn : Int32} {mall : Int32} {msum : Int32} {mexchanges : Int32} {mcycleMany : Int32} {mwhich : Int32} {mlatest : Int32} {mfirstFound : Int32} {mpartMany : Int32} {mlength : Int32} {mseen : Nat → Int32} (g42 : h 42 = (8, .inl [.int mk, .int mn, .int mall, .ref 43, .ref 44, .ref 45, .ref 46, .int msum, .ref 47, .int mexchanges, .ref 48, .ref 49, .ref 50, .ref 51, .int mcycleMany, .ref 52, .int mwhich, .ref 53, .ref 54, .ref 55, .ref 56, .ref 57, .ref 58, .int mlatest, .int mfirstFound, .int mpartMany, .ref 59, .int mlength, .ref 60, .ref 61, .ref 62, .ref 63, .ref 64])) (g50 : h 50 = (2, .inr (20000, .inl mseen))) (q1 : (mall ≤ x1) → V G mX8_isRight b 27 [some (.ref 42), some (.int (1 : Int32)), some (.int (0 : Int32))] [] h Q) (q2 : (¬ mall ≤ x1) → vp_in x1 20000) (q3 : (¬ mall ≤ x1) → V G mX8_isRight b 2 [some (.ref 42), some (.int (x1 + (1 : Int32)))] [] (va_up h 50 (2, .inr (20000, .inl (upd mseen x1.toNatClampNeg (vp_nar .boolean (0 : Int32)))))) Q) : V G mX8_isRight b 2 [some (.ref 42), some (.int x1)] [] h Q := by
  refine V_iload_n dX8_isRight_2 rfl rfl ?_
  refine V_aload_n dX8_isRight_3 rfl rfl ?_
  refine V_get (ci := 8) (j := 2) (C0 := RX8) (T := TX8) (N := 33) dX8_isRight_4 rfl g42 (by decide) (by decide) kf_X8_99 rfl ?_
  refine V_icmp_ge (t := 23) dX8_isRight_7 (by decide) (fun z1 => ?_) (fun z1 => ?_)
  ·
    refine V_iconst dX8_isRight_23 ic_1 ?_
    refine V_istore_n dX8_isRight_24 rfl (Nat.le_of_ble_eq_true rfl) ?_
    refine V_iconst dX8_isRight_25 ic_0 ?_
    refine V_istore_n dX8_isRight_26 rfl (Nat.le_of_ble_eq_true rfl) ?_
    exact V_sub (by exact (And.intro rfl (And.intro rfl (And.intro rfl True.intro)))) (q1 z1)
  ·
    refine V_aload_n dX8_isRight_10 rfl rfl ?_
    refine V_get (ci := 8) (j := 12) (C0 := RX8) (T := TX8) (N := 33) dX8_isRight_11 rfl g42 (by decide) (by decide) kf_X8_31 rfl ?_
    refine V_iload_n dX8_isRight_14 rfl rfl ?_
    refine V_iconst dX8_isRight_15 ic_0 ?_
    refine V_zast dX8_isRight_16 g50 (q2 z1) ?_
    refine V_inc dX8_isRight_17 ic_1 rfl (Nat.le_of_ble_eq_true rfl) ?_
    refine V_goto (t := 2) dX8_isRight_20 (by decide) ?_
    exact V_sub (by exact (And.intro rfl (And.intro rfl True.intro))) (q3 z1)
theorem tX8_isRight_27 {G : gx} {b : bg} {h : ah} {Q : Option Value → ah → Prop} {x1 : Int32} {x2 : Int32} {mk : Int32} {mn : Int32} {mall : Int32} {msum : Int32} {mexchanges : Int32} {mcycleMany : Int32} {mwhich : Int32} {mlatest : Int32} {mfirstFound : Int32} {mpartMany : Int32} {mlength : Int32} {mto : Nat → Int32} {mseen : Nat → Int32} (g42 : h 42 = (8, .inl [.int mk, .int mn, .int mall, .ref 43, .ref 44, .ref 45, .ref 46, .int msum, .ref 47, .int mexchanges, .ref 48, .ref 49, .ref 50, .ref 51, .int mcycleMany, .ref 52, .int mwhich, .ref 53, .ref 54, .ref 55, .ref 56, .ref 57, .ref 58, .int mlatest, .int mfirstFound, .int mpartMany, .ref 59, .int mlength, .ref 60, .ref 61, .ref 62, .ref 63, .ref 64])) (g47 : h 47 = (0, .inr (20000, .inl mto))) (g50 : h 50 = (2, .inr (20000, .inl mseen))) (q1 : (mall ≤ x2) → Q (some (.int x1)) h) (q2 : (mall ≤ x2) → narrow .boolean (.int x1) = .int x1) (q3 : (¬ mall ≤ x2) → (x1 = (0 : Int32)) → vp_in x2 20000) (q4 : (¬ mall ≤ x2) → (x1 = (0 : Int32)) → vp_in (mto x2.toNatClampNeg) 20000) (q5 : (¬ mall ≤ x2) → (x1 = (0 : Int32)) → V G mX8_isRight b 27 [some (.ref 42), some (.int (0 : Int32)), some (.int (x2 + (1 : Int32)))] [] (va_up h 50 (2, .inr (20000, .inl (upd mseen (mto x2.toNatClampNeg).toNatClampNeg (vp_nar .boolean (1 : Int32)))))) Q) (q6 : (¬ mall ≤ x2) → (¬ x1 = (0 : Int32)) → vp_in x2 20000) (q7 : (¬ mall ≤ x2) → (¬ x1 = (0 : Int32)) → vp_in (mto x2.toNatClampNeg) 20000) (q8 : (¬ mall ≤ x2) → (¬ x1 = (0 : Int32)) → (¬ (mseen (mto x2.toNatClampNeg).toNatClampNeg) = (0 : Int32)) → vp_in x2 20000) (q9 : (¬ mall ≤ x2) → (¬ x1 = (0 : Int32)) → (¬ (mseen (mto x2.toNatClampNeg).toNatClampNeg) = (0 : Int32)) → vp_in (mto x2.toNatClampNeg) 20000) (q10 : (¬ mall ≤ x2) → (¬ x1 = (0 : Int32)) → (¬ (mseen (mto x2.toNatClampNeg).toNatClampNeg) = (0 : Int32)) → V G mX8_isRight b 27 [some (.ref 42), some (.int (0 : Int32)), some (.int (x2 + (1 : Int32)))] [] (va_up h 50 (2, .inr (20000, .inl (upd mseen (mto x2.toNatClampNeg).toNatClampNeg (vp_nar .boolean (1 : Int32)))))) Q) (q11 : (¬ mall ≤ x2) → (¬ x1 = (0 : Int32)) → ((mseen (mto x2.toNatClampNeg).toNatClampNeg) = (0 : Int32)) → vp_in x2 20000) (q12 : (¬ mall ≤ x2) → (¬ x1 = (0 : Int32)) → ((mseen (mto x2.toNatClampNeg).toNatClampNeg) = (0 : Int32)) → vp_in (mto x2.toNatClampNeg) 20000) (q13 : (¬ mall ≤ x2) → (¬ x1 = (0 : Int32)) → ((mseen (mto x2.toNatClampNeg).toNatClampNeg) = (0 : Int32)) → V G mX8_isRight b 27 [some (.ref 42), some (.int (1 : Int32)), some (.int (x2 + (1 : Int32)))] [] (va_up h 50 (2, .inr (20000, .inl (upd mseen (mto x2.toNatClampNeg).toNatClampNeg (vp_nar .boolean (1 : Int32)))))) Q) : V G mX8_isRight b 27 [some (.ref 42), some (.int x1), some (.int x2)] [] h Q := by
  refine V_iload_n dX8_isRight_27 rfl rfl ?_
  refine V_aload_n dX8_isRight_28 rfl rfl ?_
  refine V_get (ci := 8) (j := 2) (C0 := RX8) (T := TX8) (N := 33) dX8_isRight_29 rfl g42 (by decide) (by decide) kf_X8_99 rfl ?_
  refine V_icmp_ge (t := 77) dX8_isRight_32 (by decide) (fun z1 => ?_) (fun z1 => ?_)
  ·
    refine V_iload_n dX8_isRight_77 rfl rfl ?_
    exact V_zret dX8_isRight_78 rfl (q2 z1) (q1 z1)
  ·
    refine V_iload_n dX8_isRight_35 rfl rfl ?_
    refine V_if_eq (t := 57) dX8_isRight_36 (by decide) (fun z2 => ?_) (fun z2 => ?_)
    ·
      refine V_iconst dX8_isRight_57 ic_0 ?_
      refine V_istore_n dX8_isRight_58 rfl (Nat.le_of_ble_eq_true rfl) ?_
      refine V_aload_n dX8_isRight_59 rfl rfl ?_
      refine V_get (ci := 8) (j := 12) (C0 := RX8) (T := TX8) (N := 33) dX8_isRight_60 rfl g42 (by decide) (by decide) kf_X8_31 rfl ?_
      refine V_aload_n dX8_isRight_63 rfl rfl ?_
      refine V_get (ci := 8) (j := 8) (C0 := RX8) (T := TX8) (N := 33) dX8_isRight_64 rfl g42 (by decide) (by decide) kf_X8_22 rfl ?_
      refine V_iload_n dX8_isRight_67 rfl rfl ?_
      refine V_iald dX8_isRight_68 g47 (q3 z1 z2) ?_
      refine V_iconst dX8_isRight_69 ic_1 ?_
      refine V_zast dX8_isRight_70 g50 (q4 z1 z2) ?_
      refine V_inc dX8_isRight_71 ic_1 rfl (Nat.le_of_ble_eq_true rfl) ?_
      refine V_goto (t := 27) dX8_isRight_74 (by decide) ?_
      exact V_sub (by exact (And.intro rfl (And.intro rfl (And.intro rfl True.intro)))) (q5 z1 z2)
    ·
      refine V_aload_n dX8_isRight_39 rfl rfl ?_
      refine V_get (ci := 8) (j := 12) (C0 := RX8) (T := TX8) (N := 33) dX8_isRight_40 rfl g42 (by decide) (by decide) kf_X8_31 rfl ?_
      refine V_aload_n dX8_isRight_43 rfl rfl ?_
      refine V_get (ci := 8) (j := 8) (C0 := RX8) (T := TX8) (N := 33) dX8_isRight_44 rfl g42 (by decide) (by decide) kf_X8_22 rfl ?_
      refine V_iload_n dX8_isRight_47 rfl rfl ?_
      refine V_iald dX8_isRight_48 g47 (q6 z1 z2) ?_
      refine V_zald dX8_isRight_49 g50 (q7 z1 z2) ?_
      refine V_if_ne (t := 57) dX8_isRight_50 (by decide) (fun z3 => ?_) (fun z3 => ?_)
      ·
        refine V_iconst dX8_isRight_57 ic_0 ?_
        refine V_istore_n dX8_isRight_58 rfl (Nat.le_of_ble_eq_true rfl) ?_
        refine V_aload_n dX8_isRight_59 rfl rfl ?_
        refine V_get (ci := 8) (j := 12) (C0 := RX8) (T := TX8) (N := 33) dX8_isRight_60 rfl g42 (by decide) (by decide) kf_X8_31 rfl ?_
        refine V_aload_n dX8_isRight_63 rfl rfl ?_
        refine V_get (ci := 8) (j := 8) (C0 := RX8) (T := TX8) (N := 33) dX8_isRight_64 rfl g42 (by decide) (by decide) kf_X8_22 rfl ?_
        refine V_iload_n dX8_isRight_67 rfl rfl ?_
        refine V_iald dX8_isRight_68 g47 (q8 z1 z2 z3) ?_
        refine V_iconst dX8_isRight_69 ic_1 ?_
        refine V_zast dX8_isRight_70 g50 (q9 z1 z2 z3) ?_
        refine V_inc dX8_isRight_71 ic_1 rfl (Nat.le_of_ble_eq_true rfl) ?_
        refine V_goto (t := 27) dX8_isRight_74 (by decide) ?_
        exact V_sub (by exact (And.intro rfl (And.intro rfl (And.intro rfl True.intro)))) (q10 z1 z2 z3)
      ·
        refine V_iconst dX8_isRight_53 ic_1 ?_
        refine V_goto (t := 58) dX8_isRight_54 (by decide) ?_
        refine V_istore_n dX8_isRight_58 rfl (Nat.le_of_ble_eq_true rfl) ?_
        refine V_aload_n dX8_isRight_59 rfl rfl ?_
        refine V_get (ci := 8) (j := 12) (C0 := RX8) (T := TX8) (N := 33) dX8_isRight_60 rfl g42 (by decide) (by decide) kf_X8_31 rfl ?_
        refine V_aload_n dX8_isRight_63 rfl rfl ?_
        refine V_get (ci := 8) (j := 8) (C0 := RX8) (T := TX8) (N := 33) dX8_isRight_64 rfl g42 (by decide) (by decide) kf_X8_22 rfl ?_
        refine V_iload_n dX8_isRight_67 rfl rfl ?_
        refine V_iald dX8_isRight_68 g47 (q11 z1 z2 z3) ?_
        refine V_iconst dX8_isRight_69 ic_1 ?_
        refine V_zast dX8_isRight_70 g50 (q12 z1 z2 z3) ?_
        refine V_inc dX8_isRight_71 ic_1 rfl (Nat.le_of_ble_eq_true rfl) ?_
        refine V_goto (t := 27) dX8_isRight_74 (by decide) ?_
        exact V_sub (by exact (And.intro rfl (And.intro rfl (And.intro rfl True.intro)))) (q13 z1 z2 z3)
theorem tX8_right_0 {G : gx} {b : bg} {h : ah} {Q : Option Value → ah → Prop} (q1 : V G mX8_right b 1 [some (.ref 42)] [.ref 42] h Q) : V G mX8_right b 0 [some (.ref 42)] [] h Q := by
  refine V_aload_n dX8_right_0 rfl rfl ?_
  exact V_sub (by exact (And.intro rfl True.intro)) (q1)
theorem tX8_right_4 {G : gx} {b : bg} {h : ah} {Q : Option Value → ah → Prop} {s0 : Int32} (q1 : (s0 = (0 : Int32)) → Q (some (.int (0 : Int32))) h) (q2 : (¬ s0 = (0 : Int32)) → Q (some (.int (1 : Int32))) h) : V G mX8_right b 4 [some (.ref 42)] [.int s0] h Q := by
  refine V_if_eq (t := 11) dX8_right_4 (by decide) (fun z1 => ?_) (fun z1 => ?_)
  ·
    refine V_iconst dX8_right_11 ic_0 ?_
    exact V_iret dX8_right_12 rfl (q1 z1)
  ·
    refine V_iconst dX8_right_7 ic_1 ?_
    refine V_goto (t := 12) dX8_right_8 (by decide) ?_
    exact V_iret dX8_right_12 rfl (q2 z1)
theorem cX8_right_1 {G : gx} {d mc ms cc zz d2 mc2 ms2 : Nat} {L : List (Option Value)} {S : List Value} {h : ah} {Q Q2 : Option Value → ah → Prop} {k : Nat} {fs : List Value} (hM : Ct G mX8_isRight d2 mc2 ms2 (.ref (k + 2) :: []) h Q2) (hc : h (k + 2) = (8, .inl fs)) (hdd : d2 < d ∧ d ≤ 9) (hrm : (S.map fun v => v.category).sum ≤ 8) (hf : cc + mc2 ≤ mc ∧ zz + ms2 ≤ ms) (kk : ∀ r h2, Q2 r h2 → V G mX8_right (d, mc, ms, cc + mc2, zz + ms2) 4 L (r.toList ++ S) h2 Q) : V G mX8_right (d, mc, ms, cc, zz) 1 L (.ref (k + 2) :: S) h Q := V_callV (ci := 8) (T := TX8) (N := 33) hM dX8_right_1 ⟨km_X8_136, ki_X8_isRight, ks_X8_isRight⟩ cw_X8_isRight rfl hc (by decide) hdd rfl rfl hrm hf kk
theorem tX8_findCycles_0 {G : gx} {b : bg} {h : ah} {Q : Option Value → ah → Prop} {mk : Int32} {mn : Int32} {mall : Int32} {msum : Int32} {mexchanges : Int32} {mcycleMany : Int32} {mwhich : Int32} {mlatest : Int32} {mfirstFound : Int32} {mpartMany : Int32} {mlength : Int32} (g42 : h 42 = (8, .inl [.int mk, .int mn, .int mall, .ref 43, .ref 44, .ref 45, .ref 46, .int msum, .ref 47, .int mexchanges, .ref 48, .ref 49, .ref 50, .ref 51, .int mcycleMany, .ref 52, .int mwhich, .ref 53, .ref 54, .ref 55, .ref 56, .ref 57, .ref 58, .int mlatest, .int mfirstFound, .int mpartMany, .ref 59, .int mlength, .ref 60, .ref 61, .ref 62, .ref 63, .ref 64])) (q1 : V G mX8_findCycles b 7 [some (.ref 42), some (.int (0 : Int32))] [] (va_up h 42 (8, .inl [.int mk, .int mn, .int mall, .ref 43, .ref 44, .ref 45, .ref 46, .int msum, .ref 47, .int mexchanges, .ref 48, .ref 49, .ref 50, .ref 51, .int (0 : Int32), .ref 52, .int mwhich, .ref 53, .ref 54, .ref 55, .ref 56, .ref 57, .ref 58, .int mlatest, .int mfirstFound, .int mpartMany, .ref 59, .int mlength, .ref 60, .ref 61, .ref 62, .ref 63, .ref 64])) Q) : V G mX8_findCycles b 0 [some (.ref 42)] [] h Q := by
  refine V_aload_n dX8_findCycles_0 rfl rfl ?_
  refine V_iconst dX8_findCycles_1 ic_0 ?_
  refine V_put (ci := 8) (j := 14) (C0 := RX8) (T := TX8) (N := 33) (ty := .int) dX8_findCycles_2 rfl g42 (by decide) (by decide) kf_X8_140 rfl (by decide +kernel) rfl rfl (Nat.le_of_ble_eq_true rfl) ?_
  refine V_iconst dX8_findCycles_5 ic_0 ?_
  refine V_istore_n dX8_findCycles_6 rfl (Nat.le_of_ble_eq_true rfl) ?_
  exact V_sub (by exact (And.intro rfl (And.intro rfl True.intro))) (q1)
theorem tX8_findCycles_7 {G : gx} {b : bg} {h : ah} {Q : Option Value → ah → Prop} {x1 : Int32} {mk : Int32} {mn : Int32} {mall : Int32} {msum : Int32} {mexchanges : Int32} {mcycleMany : Int32} {mwhich : Int32} {mlatest : Int32} {mfirstFound : Int32} {mpartMany : Int32} {mlength : Int32} {mnumber : Nat → Int32} (g42 : h 42 = (8, .inl [.int mk, .int mn, .int mall, .ref 43, .ref 44, .ref 45, .ref 46, .int msum, .ref 47, .int mexchanges, .ref 48, .ref 49, .ref 50, .ref 51, .int mcycleMany, .ref 52, .int mwhich, .ref 53, .ref 54, .ref 55, .ref 56, .ref 57, .ref 58, .int mlatest, .int mfirstFound, .int mpartMany, .ref 59, .int mlength, .ref 60, .ref 61, .ref 62, .ref 63, .ref 64])) (g51 : h 51 = (0, .inr (20000, .inl mnumber))) (q1 : (mall ≤ x1) → V G mX8_findCycles b 30 [some (.ref 42), some (.int (0 : Int32))] [] h Q) (q2 : (¬ mall ≤ x1) → vp_in x1 20000) (q3 : (¬ mall ≤ x1) → V G mX8_findCycles b 7 [some (.ref 42), some (.int (x1 + (1 : Int32)))] [] (va_up h 51 (0, .inr (20000, .inl (upd mnumber x1.toNatClampNeg (-1 : Int32))))) Q) : V G mX8_findCycles b 7 [some (.ref 42), some (.int x1)] [] h Q := by
  refine V_iload_n dX8_findCycles_7 rfl rfl ?_
  refine V_aload_n dX8_findCycles_8 rfl rfl ?_
  refine V_get (ci := 8) (j := 2) (C0 := RX8) (T := TX8) (N := 33) dX8_findCycles_9 rfl g42 (by decide) (by decide) kf_X8_99 rfl ?_
  refine V_icmp_ge (t := 28) dX8_findCycles_12 (by decide) (fun z1 => ?_) (fun z1 => ?_)
  ·
    refine V_iconst dX8_findCycles_28 ic_0 ?_
    refine V_istore_n dX8_findCycles_29 rfl (Nat.le_of_ble_eq_true rfl) ?_
    exact V_sub (by exact (And.intro rfl (And.intro rfl True.intro))) (q1 z1)
  ·
    refine V_aload_n dX8_findCycles_15 rfl rfl ?_
    refine V_get (ci := 8) (j := 13) (C0 := RX8) (T := TX8) (N := 33) dX8_findCycles_16 rfl g42 (by decide) (by decide) kf_X8_35 rfl ?_
    refine V_iload_n dX8_findCycles_19 rfl rfl ?_
    refine V_iconst dX8_findCycles_20 ic_m1 ?_
    refine V_iast dX8_findCycles_21 g51 (q2 z1) ?_
    refine V_inc dX8_findCycles_22 ic_1 rfl (Nat.le_of_ble_eq_true rfl) ?_
    refine V_goto (t := 7) dX8_findCycles_25 (by decide) ?_
    exact V_sub (by exact (And.intro rfl (And.intro rfl True.intro))) (q3 z1)
theorem tX8_findCycles_30 {G : gx} {b : bg} {h : ah} {Q : Option Value → ah → Prop} {x1 : Int32} {mk : Int32} {mn : Int32} {mall : Int32} {msum : Int32} {mexchanges : Int32} {mcycleMany : Int32} {mwhich : Int32} {mlatest : Int32} {mfirstFound : Int32} {mpartMany : Int32} {mlength : Int32} {mnumber : Nat → Int32} (g42 : h 42 = (8, .inl [.int mk, .int mn, .int mall, .ref 43, .ref 44, .ref 45, .ref 46, .int msum, .ref 47, .int mexchanges, .ref 48, .ref 49, .ref 50, .ref 51, .int mcycleMany, .ref 52, .int mwhich, .ref 53, .ref 54, .ref 55, .ref 56, .ref 57, .ref 58, .int mlatest, .int mfirstFound, .int mpartMany, .ref 59, .int mlength, .ref 60, .ref 61, .ref 62, .ref 63, .ref 64])) (g51 : h 51 = (0, .inr (20000, .inl mnumber))) (q1 : (mall ≤ x1) → Q none h) (q2 : (¬ mall ≤ x1) → vp_in x1 20000) (q3 : (¬ mall ≤ x1) → (¬ (mnumber x1.toNatClampNeg) = (-1 : Int32)) → V G mX8_findCycles b 30 [some (.ref 42), some (.int (x1 + (1 : Int32)))] [] h Q) (q4 : (¬ mall ≤ x1) → ((mnumber x1.toNatClampNeg) = (-1 : Int32)) → V G mX8_findCycles b 50 [some (.ref 42), some (.int x1), some (.int x1)] [] h Q) : V G mX8_findCycles b 30 [some (.ref 42), some (.int x1)] [] h Q := by
  refine V_iload_n dX8_findCycles_30 rfl rfl ?_
  refine V_aload_n dX8_findCycles_31 rfl rfl ?_
  refine V_get (ci := 8) (j := 2) (C0 := RX8) (T := TX8) (N := 33) dX8_findCycles_32 rfl g42 (by decide) (by decide) kf_X8_99 rfl ?_
  refine V_icmp_ge (t := 96) dX8_findCycles_35 (by decide) (fun z1 => ?_) (fun z1 => ?_)
  ·
    exact V_vret dX8_findCycles_96 rfl (q1 z1)
  ·
    refine V_aload_n dX8_findCycles_38 rfl rfl ?_
    refine V_get (ci := 8) (j := 13) (C0 := RX8) (T := TX8) (N := 33) dX8_findCycles_39 rfl g42 (by decide) (by decide) kf_X8_35 rfl ?_
    refine V_iload_n dX8_findCycles_42 rfl rfl ?_
    refine V_iald dX8_findCycles_43 g51 (q2 z1) ?_
    refine V_iconst dX8_findCycles_44 ic_m1 ?_
    refine V_icmp_ne (t := 90) dX8_findCycles_45 (by decide) (fun z2 => ?_) (fun z2 => ?_)
    ·
      refine V_inc dX8_findCycles_90 ic_1 rfl (Nat.le_of_ble_eq_true rfl) ?_
      refine V_goto (t := 30) dX8_findCycles_93 (by decide) ?_
      exact V_sub (by exact (And.intro rfl (And.intro rfl True.intro))) (q3 z1 z2)
    ·
      refine V_iload_n dX8_findCycles_48 rfl rfl ?_
      refine V_istore_n dX8_findCycles_49 rfl (Nat.le_of_ble_eq_true rfl) ?_
      exact V_sub (by exact (And.intro rfl (And.intro rfl (And.intro rfl True.intro)))) (q4 z1 z2)
theorem tX8_findCycles_50 {G : gx} {b : bg} {h : ah} {Q : Option Value → ah → Prop} {x1 : Int32} {x2 : Int32} {mk : Int32} {mn : Int32} {mall : Int32} {msum : Int32} {mexchanges : Int32} {mcycleMany : Int32} {mwhich : Int32} {mlatest : Int32} {mfirstFound : Int32} {mpartMany : Int32} {mlength : Int32} {mnumber : Nat → Int32} {mto : Nat → Int32} (g42 : h 42 = (8, .inl [.int mk, .int mn, .int mall, .ref 43, .ref 44, .ref 45, .ref 46, .int msum, .ref 47, .int mexchanges, .ref 48, .ref 49, .ref 50, .ref 51, .int mcycleMany, .ref 52, .int mwhich, .ref 53, .ref 54, .ref 55, .ref 56, .ref 57, .ref 58, .int mlatest, .int mfirstFound, .int mpartMany, .ref 59, .int mlength, .ref 60, .ref 61, .ref 62, .ref 63, .ref 64])) (g51 : h 51 = (0, .inr (20000, .inl mnumber))) (g47 : h 47 = (0, .inr (20000, .inl mto))) (q1 : vp_in x2 20000) (q2 : (¬ (mnumber x2.toNatClampNeg) = (-1 : Int32)) → V G mX8_findCycles b 30 [some (.ref 42), some (.int (x1 + (1 : Int32)))] [] (va_up h 42 (8, .inl [.int mk, .int mn, .int mall, .ref 43, .ref 44, .ref 45, .ref 46, .int msum, .ref 47, .int mexchanges, .ref 48, .ref 49, .ref 50, .ref 51, .int (mcycleMany + (1 : Int32)), .ref 52, .int mwhich, .ref 53, .ref 54, .ref 55, .ref 56, .ref 57, .ref 58, .int mlatest, .int mfirstFound, .int mpartMany, .ref 59, .int mlength, .ref 60, .ref 61, .ref 62, .ref 63, .ref 64])) Q) (q3 : ((mnumber x2.toNatClampNeg) = (-1 : Int32)) → vp_in x2 20000) (q4 : ((mnumber x2.toNatClampNeg) = (-1 : Int32)) → vp_in x2 20000) (q5 : ((mnumber x2.toNatClampNeg) = (-1 : Int32)) → V G mX8_findCycles b 50 [some (.ref 42), some (.int x1), some (.int (mto x2.toNatClampNeg))] [] (va_up h 51 (0, .inr (20000, .inl (upd mnumber x2.toNatClampNeg mcycleMany)))) Q) : V G mX8_findCycles b 50 [some (.ref 42), some (.int x1), some (.int x2)] [] h Q := by
  refine V_aload_n dX8_findCycles_50 rfl rfl ?_
  refine V_get (ci := 8) (j := 13) (C0 := RX8) (T := TX8) (N := 33) dX8_findCycles_51 rfl g42 (by decide) (by decide) kf_X8_35 rfl ?_
  refine V_iload_n dX8_findCycles_54 rfl rfl ?_
  refine V_iald dX8_findCycles_55 g51 (q1) ?_
  refine V_iconst dX8_findCycles_56 ic_m1 ?_
  refine V_icmp_ne (t := 80) dX8_findCycles_57 (by decide) (fun z1 => ?_) (fun z1 => ?_)
  ·
    refine V_aload_n dX8_findCycles_80 rfl rfl ?_
    refine V_dup dX8_findCycles_81 rfl ?_
    refine V_get (ci := 8) (j := 14) (C0 := RX8) (T := TX8) (N := 33) dX8_findCycles_82 rfl g42 (by decide) (by decide) kf_X8_140 rfl ?_
    refine V_iconst dX8_findCycles_85 ic_1 ?_
    refine V_iadd dX8_findCycles_86 ?_
    refine V_put (ci := 8) (j := 14) (C0 := RX8) (T := TX8) (N := 33) (ty := .int) dX8_findCycles_87 rfl g42 (by decide) (by decide) kf_X8_140 rfl (by decide +kernel) rfl rfl (Nat.le_of_ble_eq_true rfl) ?_
    refine V_inc dX8_findCycles_90 ic_1 rfl (Nat.le_of_ble_eq_true rfl) ?_
    refine V_goto (t := 30) dX8_findCycles_93 (by decide) ?_
    exact V_sub (by exact (And.intro rfl (And.intro rfl True.intro))) (q2 z1)
  ·
    refine V_aload_n dX8_findCycles_60 rfl rfl ?_
    refine V_get (ci := 8) (j := 13) (C0 := RX8) (T := TX8) (N := 33) dX8_findCycles_61 rfl g42 (by decide) (by decide) kf_X8_35 rfl ?_
    refine V_iload_n dX8_findCycles_64 rfl rfl ?_
    refine V_aload_n dX8_findCycles_65 rfl rfl ?_
    refine V_get (ci := 8) (j := 14) (C0 := RX8) (T := TX8) (N := 33) dX8_findCycles_66 rfl g42 (by decide) (by decide) kf_X8_140 rfl ?_
    refine V_iast dX8_findCycles_69 g51 (q3 z1) ?_
    refine V_aload_n dX8_findCycles_70 rfl rfl ?_
    refine V_get (ci := 8) (j := 8) (C0 := RX8) (T := TX8) (N := 33) dX8_findCycles_71 rfl g42 (by decide) (by decide) kf_X8_22 rfl ?_
    refine V_iload_n dX8_findCycles_74 rfl rfl ?_
    refine V_iald dX8_findCycles_75 g47 (q4 z1) ?_
    refine V_istore_n dX8_findCycles_76 rfl (Nat.le_of_ble_eq_true rfl) ?_
    refine V_goto (t := 50) dX8_findCycles_77 (by decide) ?_
    exact V_sub (by exact (And.intro rfl (And.intro rfl (And.intro rfl True.intro)))) (q5 z1)
theorem tX8_swap_0 {G : gx} {b : bg} {h : ah} {Q : Option Value → ah → Prop} {x1 : Int32} {x2 : Int32} {mk : Int32} {mn : Int32} {mall : Int32} {msum : Int32} {mexchanges : Int32} {mcycleMany : Int32} {mwhich : Int32} {mlatest : Int32} {mfirstFound : Int32} {mpartMany : Int32} {mlength : Int32} {mto : Nat → Int32} (g42 : h 42 = (8, .inl [.int mk, .int mn, .int mall, .ref 43, .ref 44, .ref 45, .ref 46, .int msum, .ref 47, .int mexchanges, .ref 48, .ref 49, .ref 50, .ref 51, .int mcycleMany, .ref 52, .int mwhich, .ref 53, .ref 54, .ref 55, .ref 56, .ref 57, .ref 58, .int mlatest, .int mfirstFound, .int mpartMany, .ref 59, .int mlength, .ref 60, .ref 61, .ref 62, .ref 63, .ref 64])) (g47 : h 47 = (0, .inr (20000, .inl mto))) (q1 : vp_in x1 20000) (q2 : vp_in x2 20000) (q3 : vp_in x1 20000) (q4 : vp_in x2 20000) (q5 : Q none (va_up (va_up h 47 (0, .inr (20000, .inl (upd mto x1.toNatClampNeg (mto x2.toNatClampNeg))))) 47 (0, .inr (20000, .inl (upd (upd mto x1.toNatClampNeg (mto x2.toNatClampNeg)) x2.toNatClampNeg (mto x1.toNatClampNeg)))))) : V G mX8_swap b 0 [some (.ref 42), some (.int x1), some (.int x2)] [] h Q := by
  refine V_aload_n dX8_swap_0 rfl rfl ?_
  refine V_get (ci := 8) (j := 8) (C0 := RX8) (T := TX8) (N := 33) dX8_swap_1 rfl g42 (by decide) (by decide) kf_X8_22 rfl ?_
  refine V_iload_n dX8_swap_4 rfl rfl ?_
  refine V_iald dX8_swap_5 g47 (q1) ?_
  refine V_istore_n dX8_swap_6 rfl (Nat.le_of_ble_eq_true rfl) ?_
  refine V_aload_n dX8_swap_7 rfl rfl ?_
  refine V_get (ci := 8) (j := 8) (C0 := RX8) (T := TX8) (N := 33) dX8_swap_8 rfl g42 (by decide) (by decide) kf_X8_22 rfl ?_
  refine V_iload_n dX8_swap_11 rfl rfl ?_
  refine V_aload_n dX8_swap_12 rfl rfl ?_
  refine V_get (ci := 8) (j := 8) (C0 := RX8) (T := TX8) (N := 33) dX8_swap_13 rfl g42 (by decide) (by decide) kf_X8_22 rfl ?_
  refine V_iload_n dX8_swap_16 rfl rfl ?_
  refine V_iald dX8_swap_17 g47 (q2) ?_
  refine V_iast dX8_swap_18 g47 (q3) ?_
  refine V_aload_n dX8_swap_19 rfl rfl ?_
  refine V_get (ci := 8) (j := 8) (C0 := RX8) (T := TX8) (N := 33) dX8_swap_20 rfl g42 (by decide) (by decide) kf_X8_22 rfl ?_
  refine V_iload_n dX8_swap_23 rfl rfl ?_
  refine V_iload_n dX8_swap_24 rfl rfl ?_
  refine V_iast dX8_swap_25 rfl (q4) ?_
  exact V_vret dX8_swap_26 rfl (q5)
theorem tX8_exchange_0 {G : gx} {b : bg} {h : ah} {Q : Option Value → ah → Prop} {x1 : Int32} {x2 : Int32} (q1 : V G mX8_exchange b 2 [some (.ref 42), some (.int x1), some (.int x2)] [.int x1, .ref 42] h Q) : V G mX8_exchange b 0 [some (.ref 42), some (.int x1), some (.int x2)] [] h Q := by
  refine V_aload_n dX8_exchange_0 rfl rfl ?_
  refine V_iload_n dX8_exchange_1 rfl rfl ?_
  exact V_sub (by exact (And.intro rfl (And.intro rfl (And.intro rfl True.intro)))) (q1)
theorem tX8_exchange_5 {G : gx} {b : bg} {h : ah} {Q : Option Value → ah → Prop} {x1 : Int32} {x2 : Int32} {s0 : Int32} (q1 : (s0 = (0 : Int32)) → Q (some (.int (-2 : Int32))) h) (q2 : (¬ s0 = (0 : Int32)) → V G mX8_exchange b 10 [some (.ref 42), some (.int x1), some (.int x2)] [.int x2, .ref 42] h Q) : V G mX8_exchange b 5 [some (.ref 42), some (.int x1), some (.int x2)] [.int s0] h Q := by
  refine V_if_eq (t := 46) dX8_exchange_5 (by decide) (fun z1 => ?_) (fun z1 => ?_)
  ·
    refine V_bipush dX8_exchange_46 bp_m2 ?_
    exact V_iret dX8_exchange_48 rfl (q1 z1)
  ·
    refine V_aload_n dX8_exchange_8 rfl rfl ?_
    refine V_iload_n dX8_exchange_9 rfl rfl ?_
    exact V_sub (by exact (And.intro rfl (And.intro rfl (And.intro rfl True.intro)))) (q2 z1)
theorem tX8_exchange_13 {G : gx} {b : bg} {h : ah} {Q : Option Value → ah → Prop} {x1 : Int32} {x2 : Int32} {s0 : Int32} {mk : Int32} {mn : Int32} {mall : Int32} {msum : Int32} {mexchanges : Int32} {mcycleMany : Int32} {mwhich : Int32} {mlatest : Int32} {mfirstFound : Int32} {mpartMany : Int32} {mlength : Int32} (g42 : h 42 = (8, .inl [.int mk, .int mn, .int mall, .ref 43, .ref 44, .ref 45, .ref 46, .int msum, .ref 47, .int mexchanges, .ref 48, .ref 49, .ref 50, .ref 51, .int mcycleMany, .ref 52, .int mwhich, .ref 53, .ref 54, .ref 55, .ref 56, .ref 57, .ref 58, .int mlatest, .int mfirstFound, .int mpartMany, .ref 59, .int mlength, .ref 60, .ref 61, .ref 62, .ref 63, .ref 64])) (q1 : (s0 = (0 : Int32)) → Q (some (.int (-2 : Int32))) h) (q2 : (¬ s0 = (0 : Int32)) → (x1 = x2) → Q (some (.int (-2 : Int32))) h) (q3 : (¬ s0 = (0 : Int32)) → (¬ x1 = x2) → ¬ mk = 0) (q4 : (¬ s0 = (0 : Int32)) → (¬ x1 = x2) → ¬ (mall / mk) = 0) (q5 : (¬ s0 = (0 : Int32)) → (¬ x1 = x2) → ¬ mk = 0) (q6 : (¬ s0 = (0 : Int32)) → (¬ x1 = x2) → ¬ (mall / mk) = 0) (q7 : (¬ s0 = (0 : Int32)) → (¬ x1 = x2) → ((x1 - x1 / (mall / mk) * (mall / mk)) = (x2 - x2 / (mall / mk) * (mall / mk))) → V G mX8_exchange b 50 [some (.ref 42), some (.int x1), some (.int x2)] [.ref 42] h Q) (q8 : (¬ s0 = (0 : Int32)) → (¬ x1 = x2) → (¬ (x1 - x1 / (mall / mk) * (mall / mk)) = (x2 - x2 / (mall / mk) * (mall / mk))) → Q (some (.int (-2 : Int32))) h) : V G mX8_exchange b 13 [some (.ref 42), some (.int x1), some (.int x2)] [.int s0] h Q := by
  refine V_if_eq (t := 46) dX8_exchange_13 (by decide) (fun z1 => ?_) (fun z1 => ?_)
  ·
    refine V_bipush dX8_exchange_46 bp_m2 ?_
    exact V_iret dX8_exchange_48 rfl (q1 z1)
  ·
    refine V_iload_n dX8_exchange_16 rfl rfl ?_
    refine V_iload_n dX8_exchange_17 rfl rfl ?_
    refine V_icmp_eq (t := 46) dX8_exchange_18 (by decide) (fun z2 => ?_) (fun z2 => ?_)
    ·
      refine V_bipush dX8_exchange_46 bp_m2 ?_
      exact V_iret dX8_exchange_48 rfl (q2 z1 z2)
    ·
      refine V_iload_n dX8_exchange_21 rfl rfl ?_
      refine V_aload_n dX8_exchange_22 rfl rfl ?_
      refine V_get (ci := 8) (j := 2) (C0 := RX8) (T := TX8) (N := 33) dX8_exchange_23 rfl g42 (by decide) (by decide) kf_X8_99 rfl ?_
      refine V_aload_n dX8_exchange_26 rfl rfl ?_
      refine V_get (ci := 8) (j := 0) (C0 := RX8) (T := TX8) (N := 33) dX8_exchange_27 rfl g42 (by decide) (by decide) kf_X8_92 rfl ?_
      refine V_idiv dX8_exchange_30 (q3 z1 z2) ?_
      refine V_irem dX8_exchange_31 (q4 z1 z2) ?_
      refine V_iload_n dX8_exchange_32 rfl rfl ?_
      refine V_aload_n dX8_exchange_33 rfl rfl ?_
      refine V_get (ci := 8) (j := 2) (C0 := RX8) (T := TX8) (N := 33) dX8_exchange_34 rfl g42 (by decide) (by decide) kf_X8_99 rfl ?_
      refine V_aload_n dX8_exchange_37 rfl rfl ?_
      refine V_get (ci := 8) (j := 0) (C0 := RX8) (T := TX8) (N := 33) dX8_exchange_38 rfl g42 (by decide) (by decide) kf_X8_92 rfl ?_
      refine V_idiv dX8_exchange_41 (q5 z1 z2) ?_
      refine V_irem dX8_exchange_42 (q6 z1 z2) ?_
      refine V_icmp_eq (t := 49) dX8_exchange_43 (by decide) (fun z3 => ?_) (fun z3 => ?_)
      ·
        refine V_aload_n dX8_exchange_49 rfl rfl ?_
        exact V_sub (by exact (And.intro rfl (And.intro rfl (And.intro rfl True.intro)))) (q7 z1 z2 z3)
      ·
        refine V_bipush dX8_exchange_46 bp_m2 ?_
        exact V_iret dX8_exchange_48 rfl (q8 z1 z2 z3)
theorem tX8_exchange_53 {G : gx} {b : bg} {h : ah} {Q : Option Value → ah → Prop} {x1 : Int32} {x2 : Int32} {s0 : Int32} {mk : Int32} {mn : Int32} {mall : Int32} {msum : Int32} {mexchanges : Int32} {mcycleMany : Int32} {mwhich : Int32} {mlatest : Int32} {mfirstFound : Int32} {mpartMany : Int32} {mlength : Int32} (g42 : h 42 = (8, .inl [.int mk, .int mn, .int mall, .ref 43, .ref 44, .ref 45, .ref 46, .int msum, .ref 47, .int mexchanges, .ref 48, .ref 49, .ref 50, .ref 51, .int mcycleMany, .ref 52, .int mwhich, .ref 53, .ref 54, .ref 55, .ref 56, .ref 57, .ref 58, .int mlatest, .int mfirstFound, .int mpartMany, .ref 59, .int mlength, .ref 60, .ref 61, .ref 62, .ref 63, .ref 64])) (q1 : (¬ s0 = (0 : Int32)) → (¬ mexchanges = (400 : Int32)) → V G mX8_exchange b 75 [some (.ref 42), some (.int x1), some (.int x2)] [.int x2, .int x1, .ref 42] h Q) (q2 : (¬ s0 = (0 : Int32)) → (mexchanges = (400 : Int32)) → Q (some (.int (-4 : Int32))) h) (q3 : (s0 = (0 : Int32)) → Q (some (.int (-3 : Int32))) h) : V G mX8_exchange b 53 [some (.ref 42), some (.int x1), some (.int x2)] [.int s0] h Q := by
  refine V_if_ne (t := 59) dX8_exchange_53 (by decide) (fun z1 => ?_) (fun z1 => ?_)
  ·
    refine V_aload_n dX8_exchange_59 rfl rfl ?_
    refine V_get (ci := 8) (j := 9) (C0 := RX8) (T := TX8) (N := 33) dX8_exchange_60 rfl g42 (by decide) (by decide) kf_X8_133 rfl ?_
    refine V_sipush dX8_exchange_63 sp_400 ?_
    refine V_icmp_ne (t := 72) dX8_exchange_66 (by decide) (fun z2 => ?_) (fun z2 => ?_)
    ·
      refine V_aload_n dX8_exchange_72 rfl rfl ?_
      refine V_iload_n dX8_exchange_73 rfl rfl ?_
      refine V_iload_n dX8_exchange_74 rfl rfl ?_
      exact V_sub (by exact (And.intro rfl (And.intro rfl (And.intro rfl True.intro)))) (q1 z1 z2)
    ·
      refine V_bipush dX8_exchange_69 bp_m4 ?_
      exact V_iret dX8_exchange_71 rfl (q2 z1 z2)
  ·
    refine V_bipush dX8_exchange_56 bp_m3 ?_
    exact V_iret dX8_exchange_58 rfl (q3 z1)
theorem tX8_exchange_78 {G : gx} {b : bg} {h : ah} {Q : Option Value → ah → Prop} {x1 : Int32} {x2 : Int32} {mk : Int32} {mn : Int32} {mall : Int32} {msum : Int32} {mexchanges : Int32} {mcycleMany : Int32} {mwhich : Int32} {mlatest : Int32} {mfirstFound : Int32} {mpartMany : Int32} {mlength : Int32} {mone : Nat → Int32} {mother : Nat → Int32} (g42 : h 42 = (8, .inl [.int mk, .int mn, .int mall, .ref 43, .ref 44, .ref 45, .ref 46, .int msum, .ref 47, .int mexchanges, .ref 48, .ref 49, .ref 50, .ref 51, .int mcycleMany, .ref 52, .int mwhich, .ref 53, .ref 54, .ref 55, .ref 56, .ref 57, .ref 58, .int mlatest, .int mfirstFound, .int mpartMany, .ref 59, .int mlength, .ref 60, .ref 61, .ref 62, .ref 63, .ref 64])) (g48 : h 48 = (0, .inr (400, .inl mone))) (g49 : h 49 = (0, .inr (400, .inl mother))) (q1 : vp_in mexchanges 400) (q2 : vp_in mexchanges 400) (q3 : V G mX8_exchange b 109 [some (.ref 42), some (.int x1), some (.int x2)] [.ref 42] (va_up (va_up (va_up h 48 (0, .inr (400, .inl (upd mone mexchanges.toNatClampNeg x1)))) 49 (0, .inr (400, .inl (upd mother mexchanges.toNatClampNeg x2)))) 42 (8, .inl [.int mk, .int mn, .int mall, .ref 43, .ref 44, .ref 45, .ref 46, .int msum, .ref 47, .int (mexchanges + (1 : Int32)), .ref 48, .ref 49, .ref 50, .ref 51, .int mcycleMany, .ref 52, .int mwhich, .ref 53, .ref 54, .ref 55, .ref 56, .ref 57, .ref 58, .int mlatest, .int mfirstFound, .int mpartMany, .ref 59, .int mlength, .ref 60, .ref 61, .ref 62, .ref 63, .ref 64])) Q) : V G mX8_exchange b 78 [some (.ref 42), some (.int x1), some (.int x2)] [] h Q := by
  refine V_aload_n dX8_exchange_78 rfl rfl ?_
  refine V_get (ci := 8) (j := 10) (C0 := RX8) (T := TX8) (N := 33) dX8_exchange_79 rfl g42 (by decide) (by decide) kf_X8_25 rfl ?_
  refine V_aload_n dX8_exchange_82 rfl rfl ?_
  refine V_get (ci := 8) (j := 9) (C0 := RX8) (T := TX8) (N := 33) dX8_exchange_83 rfl g42 (by decide) (by decide) kf_X8_133 rfl ?_
  refine V_iload_n dX8_exchange_86 rfl rfl ?_
  refine V_iast dX8_exchange_87 g48 (q1) ?_
  refine V_aload_n dX8_exchange_88 rfl rfl ?_
  refine V_get (ci := 8) (j := 11) (C0 := RX8) (T := TX8) (N := 33) dX8_exchange_89 rfl g42 (by decide) (by decide) kf_X8_28 rfl ?_
  refine V_aload_n dX8_exchange_92 rfl rfl ?_
  refine V_get (ci := 8) (j := 9) (C0 := RX8) (T := TX8) (N := 33) dX8_exchange_93 rfl g42 (by decide) (by decide) kf_X8_133 rfl ?_
  refine V_iload_n dX8_exchange_96 rfl rfl ?_
  refine V_iast dX8_exchange_97 g49 (q2) ?_
  refine V_aload_n dX8_exchange_98 rfl rfl ?_
  refine V_dup dX8_exchange_99 rfl ?_
  refine V_get (ci := 8) (j := 9) (C0 := RX8) (T := TX8) (N := 33) dX8_exchange_100 rfl g42 (by decide) (by decide) kf_X8_133 rfl ?_
  refine V_iconst dX8_exchange_103 ic_1 ?_
  refine V_iadd dX8_exchange_104 ?_
  refine V_put (ci := 8) (j := 9) (C0 := RX8) (T := TX8) (N := 33) (ty := .int) dX8_exchange_105 rfl g42 (by decide) (by decide) kf_X8_133 rfl (by decide +kernel) rfl rfl (Nat.le_of_ble_eq_true rfl) ?_
  refine V_aload_n dX8_exchange_108 rfl rfl ?_
  exact V_sub (by exact (And.intro rfl (And.intro rfl (And.intro rfl True.intro)))) (q3)
theorem tX8_exchange_112 {G : gx} {b : bg} {h : ah} {Q : Option Value → ah → Prop} {x1 : Int32} {x2 : Int32} {mk : Int32} {mn : Int32} {mall : Int32} {msum : Int32} {mexchanges : Int32} {mcycleMany : Int32} {mwhich : Int32} {mlatest : Int32} {mfirstFound : Int32} {mpartMany : Int32} {mlength : Int32} (g42 : h 42 = (8, .inl [.int mk, .int mn, .int mall, .ref 43, .ref 44, .ref 45, .ref 46, .int msum, .ref 47, .int mexchanges, .ref 48, .ref 49, .ref 50, .ref 51, .int mcycleMany, .ref 52, .int mwhich, .ref 53, .ref 54, .ref 55, .ref 56, .ref 57, .ref 58, .int mlatest, .int mfirstFound, .int mpartMany, .ref 59, .int mlength, .ref 60, .ref 61, .ref 62, .ref 63, .ref 64])) (q1 : Q (some (.int mcycleMany)) h) : V G mX8_exchange b 112 [some (.ref 42), some (.int x1), some (.int x2)] [] h Q := by
  refine V_aload_n dX8_exchange_112 rfl rfl ?_
  refine V_get (ci := 8) (j := 14) (C0 := RX8) (T := TX8) (N := 33) dX8_exchange_113 rfl g42 (by decide) (by decide) kf_X8_140 rfl ?_
  exact V_iret dX8_exchange_116 rfl (q1)
theorem cX8_exchange_2 {G : gx} {d mc ms cc zz d2 mc2 ms2 : Nat} {L : List (Option Value)} {S : List Value} {h : ah} {Q Q2 : Option Value → ah → Prop} {k : Nat} {fs : List Value} {a0 : Value} (hM : Ct G mX8_isWord d2 mc2 ms2 (.ref (k + 2) :: [a0]) h Q2) (hc : h (k + 2) = (8, .inl fs)) (hdd : d2 < d ∧ d ≤ 9) (hrm : (S.map fun v => v.category).sum ≤ 8) (hf : cc + mc2 ≤ mc ∧ zz + ms2 ≤ ms) (kk : ∀ r h2, Q2 r h2 → V G mX8_exchange (d, mc, ms, cc + mc2, zz + ms2) 5 L (r.toList ++ S) h2 Q) : V G mX8_exchange (d, mc, ms, cc, zz) 2 L (a0 :: .ref (k + 2) :: S) h Q := V_callV (ci := 8) (T := TX8) (N := 33) hM dX8_exchange_2 ⟨km_X8_121, ki_X8_isWord, ks_X8_isWord⟩ cw_X8_isWord rfl hc (by decide) hdd rfl rfl hrm hf kk
theorem cX8_exchange_10 {G : gx} {d mc ms cc zz d2 mc2 ms2 : Nat} {L : List (Option Value)} {S : List Value} {h : ah} {Q Q2 : Option Value → ah → Prop} {k : Nat} {fs : List Value} {a0 : Value} (hM : Ct G mX8_isWord d2 mc2 ms2 (.ref (k + 2) :: [a0]) h Q2) (hc : h (k + 2) = (8, .inl fs)) (hdd : d2 < d ∧ d ≤ 9) (hrm : (S.map fun v => v.category).sum ≤ 8) (hf : cc + mc2 ≤ mc ∧ zz + ms2 ≤ ms) (kk : ∀ r h2, Q2 r h2 → V G mX8_exchange (d, mc, ms, cc + mc2, zz + ms2) 13 L (r.toList ++ S) h2 Q) : V G mX8_exchange (d, mc, ms, cc, zz) 10 L (a0 :: .ref (k + 2) :: S) h Q := V_callV (ci := 8) (T := TX8) (N := 33) hM dX8_exchange_10 ⟨km_X8_121, ki_X8_isWord, ks_X8_isWord⟩ cw_X8_isWord rfl hc (by decide) hdd rfl rfl hrm hf kk
theorem cX8_exchange_50 {G : gx} {d mc ms cc zz d2 mc2 ms2 : Nat} {L : List (Option Value)} {S : List Value} {h : ah} {Q Q2 : Option Value → ah → Prop} {k : Nat} {fs : List Value} (hM : Ct G mX8_isRight d2 mc2 ms2 (.ref (k + 2) :: []) h Q2) (hc : h (k + 2) = (8, .inl fs)) (hdd : d2 < d ∧ d ≤ 9) (hrm : (S.map fun v => v.category).sum ≤ 8) (hf : cc + mc2 ≤ mc ∧ zz + ms2 ≤ ms) (kk : ∀ r h2, Q2 r h2 → V G mX8_exchange (d, mc, ms, cc + mc2, zz + ms2) 53 L (r.toList ++ S) h2 Q) : V G mX8_exchange (d, mc, ms, cc, zz) 50 L (.ref (k + 2) :: S) h Q := V_callV (ci := 8) (T := TX8) (N := 33) hM dX8_exchange_50 ⟨km_X8_136, ki_X8_isRight, ks_X8_isRight⟩ cw_X8_isRight rfl hc (by decide) hdd rfl rfl hrm hf kk
theorem cX8_exchange_75 {G : gx} {d mc ms cc zz d2 mc2 ms2 : Nat} {L : List (Option Value)} {S : List Value} {h : ah} {Q Q2 : Option Value → ah → Prop} {k : Nat} {fs : List Value} {a0 a1 : Value} (hM : Ct G mX8_swap d2 mc2 ms2 (.ref (k + 2) :: [a0, a1]) h Q2) (hc : h (k + 2) = (8, .inl fs)) (hdd : d2 < d ∧ d ≤ 9) (hrm : (S.map fun v => v.category).sum ≤ 8) (hf : cc + mc2 ≤ mc ∧ zz + ms2 ≤ ms) (kk : ∀ r h2, Q2 r h2 → V G mX8_exchange (d, mc, ms, cc + mc2, zz + ms2) 78 L (r.toList ++ S) h2 Q) : V G mX8_exchange (d, mc, ms, cc, zz) 75 L (a1 :: a0 :: .ref (k + 2) :: S) h Q := V_callV (ci := 8) (T := TX8) (N := 33) hM dX8_exchange_75 ⟨km_X8_143, ki_X8_swap, ks_X8_swap⟩ cw_X8_swap rfl hc (by decide) hdd rfl rfl hrm hf kk
theorem cX8_exchange_109 {G : gx} {d mc ms cc zz d2 mc2 ms2 : Nat} {L : List (Option Value)} {S : List Value} {h : ah} {Q Q2 : Option Value → ah → Prop} {k : Nat} {fs : List Value} (hM : Ct G mX8_findCycles d2 mc2 ms2 (.ref (k + 2) :: []) h Q2) (hc : h (k + 2) = (8, .inl fs)) (hdd : d2 < d ∧ d ≤ 9) (hrm : (S.map fun v => v.category).sum ≤ 8) (hf : cc + mc2 ≤ mc ∧ zz + ms2 ≤ ms) (kk : ∀ r h2, Q2 r h2 → V G mX8_exchange (d, mc, ms, cc + mc2, zz + ms2) 112 L (r.toList ++ S) h2 Q) : V G mX8_exchange (d, mc, ms, cc, zz) 109 L (.ref (k + 2) :: S) h Q := V_callV (ci := 8) (T := TX8) (N := 33) hM dX8_exchange_109 ⟨km_X8_147, ki_X8_findCycles, ks_X8_findCycles⟩ cw_X8_findCycles rfl hc (by decide) hdd rfl rfl hrm hf kk
theorem tX8_back_0 {G : gx} {b : bg} {h : ah} {Q : Option Value → ah → Prop} {mk : Int32} {mn : Int32} {mall : Int32} {msum : Int32} {mexchanges : Int32} {mcycleMany : Int32} {mwhich : Int32} {mlatest : Int32} {mfirstFound : Int32} {mpartMany : Int32} {mlength : Int32} {mone : Nat → Int32} {mother : Nat → Int32} (g42 : h 42 = (8, .inl [.int mk, .int mn, .int mall, .ref 43, .ref 44, .ref 45, .ref 46, .int msum, .ref 47, .int mexchanges, .ref 48, .ref 49, .ref 50, .ref 51, .int mcycleMany, .ref 52, .int mwhich, .ref 53, .ref 54, .ref 55, .ref 56, .ref 57, .ref 58, .int mlatest, .int mfirstFound, .int mpartMany, .ref 59, .int mlength, .ref 60, .ref 61, .ref 62, .ref 63, .ref 64])) (g48 : h 48 = (0, .inr (400, .inl mone))) (g49 : h 49 = (0, .inr (400, .inl mother))) (q1 : (¬ mexchanges = (0 : Int32)) → vp_in (mexchanges - (1 : Int32)) 400) (q2 : (¬ mexchanges = (0 : Int32)) → vp_in (mexchanges - (1 : Int32)) 400) (q3 : (¬ mexchanges = (0 : Int32)) → V G mX8_back b 39 [some (.ref 42)] [.int (mother (mexchanges - (1 : Int32)).toNatClampNeg), .int (mone (mexchanges - (1 : Int32)).toNatClampNeg), .ref 42] (va_up h 42 (8, .inl [.int mk, .int mn, .int mall, .ref 43, .ref 44, .ref 45, .ref 46, .int msum, .ref 47, .int (mexchanges - (1 : Int32)), .ref 48, .ref 49, .ref 50, .ref 51, .int mcycleMany, .ref 52, .int mwhich, .ref 53, .ref 54, .ref 55, .ref 56, .ref 57, .ref 58, .int mlatest, .int mfirstFound, .int mpartMany, .ref 59, .int mlength, .ref 60, .ref 61, .ref 62, .ref 63, .ref 64])) Q) (q4 : (mexchanges = (0 : Int32)) → Q (some (.int (-3 : Int32))) h) : V G mX8_back b 0 [some (.ref 42)] [] h Q := by
  refine V_aload_n dX8_back_0 rfl rfl ?_
  refine V_get (ci := 8) (j := 9) (C0 := RX8) (T := TX8) (N := 33) dX8_back_1 rfl g42 (by decide) (by decide) kf_X8_133 rfl ?_
  refine V_if_ne (t := 10) dX8_back_4 (by decide) (fun z1 => ?_) (fun z1 => ?_)
  ·
    refine V_aload_n dX8_back_10 rfl rfl ?_
    refine V_dup dX8_back_11 rfl ?_
    refine V_get (ci := 8) (j := 9) (C0 := RX8) (T := TX8) (N := 33) dX8_back_12 rfl g42 (by decide) (by decide) kf_X8_133 rfl ?_
    refine V_iconst dX8_back_15 ic_1 ?_
    refine V_isub dX8_back_16 ?_
    refine V_put (ci := 8) (j := 9) (C0 := RX8) (T := TX8) (N := 33) (ty := .int) dX8_back_17 rfl g42 (by decide) (by decide) kf_X8_133 rfl (by decide +kernel) rfl rfl (Nat.le_of_ble_eq_true rfl) ?_
    refine V_aload_n dX8_back_20 rfl rfl ?_
    refine V_aload_n dX8_back_21 rfl rfl ?_
    refine V_get (ci := 8) (j := 10) (C0 := RX8) (T := TX8) (N := 33) dX8_back_22 rfl rfl (by decide) (by decide) kf_X8_25 rfl ?_
    refine V_aload_n dX8_back_25 rfl rfl ?_
    refine V_get (ci := 8) (j := 9) (C0 := RX8) (T := TX8) (N := 33) dX8_back_26 rfl rfl (by decide) (by decide) kf_X8_133 rfl ?_
    refine V_iald dX8_back_29 g48 (q1 z1) ?_
    refine V_aload_n dX8_back_30 rfl rfl ?_
    refine V_get (ci := 8) (j := 11) (C0 := RX8) (T := TX8) (N := 33) dX8_back_31 rfl rfl (by decide) (by decide) kf_X8_28 rfl ?_
    refine V_aload_n dX8_back_34 rfl rfl ?_
    refine V_get (ci := 8) (j := 9) (C0 := RX8) (T := TX8) (N := 33) dX8_back_35 rfl rfl (by decide) (by decide) kf_X8_133 rfl ?_
    refine V_iald dX8_back_38 g49 (q2 z1) ?_
    exact V_sub (by exact (And.intro rfl True.intro)) (q3 z1)
  ·
    refine V_bipush dX8_back_7 bp_m3 ?_
    exact V_iret dX8_back_9 rfl (q4 z1)
theorem tX8_back_42 {G : gx} {b : bg} {h : ah} {Q : Option Value → ah → Prop} {mk : Int32} {mn : Int32} {mall : Int32} {msum : Int32} {mexchanges : Int32} {mcycleMany : Int32} {mwhich : Int32} {mlatest : Int32} {mfirstFound : Int32} {mpartMany : Int32} {mlength : Int32} (g42 : h 42 = (8, .inl [.int mk, .int mn, .int mall, .ref 43, .ref 44, .ref 45, .ref 46, .int msum, .ref 47, .int mexchanges, .ref 48, .ref 49, .ref 50, .ref 51, .int mcycleMany, .ref 52, .int mwhich, .ref 53, .ref 54, .ref 55, .ref 56, .ref 57, .ref 58, .int mlatest, .int mfirstFound, .int mpartMany, .ref 59, .int mlength, .ref 60, .ref 61, .ref 62, .ref 63, .ref 64])) (q1 : Q (some (.int mexchanges)) h) : V G mX8_back b 42 [some (.ref 42)] [] h Q := by
  refine V_aload_n dX8_back_42 rfl rfl ?_
  refine V_get (ci := 8) (j := 9) (C0 := RX8) (T := TX8) (N := 33) dX8_back_43 rfl g42 (by decide) (by decide) kf_X8_133 rfl ?_
  exact V_iret dX8_back_46 rfl (q1)
theorem cX8_back_39 {G : gx} {d mc ms cc zz d2 mc2 ms2 : Nat} {L : List (Option Value)} {S : List Value} {h : ah} {Q Q2 : Option Value → ah → Prop} {k : Nat} {fs : List Value} {a0 a1 : Value} (hM : Ct G mX8_swap d2 mc2 ms2 (.ref (k + 2) :: [a0, a1]) h Q2) (hc : h (k + 2) = (8, .inl fs)) (hdd : d2 < d ∧ d ≤ 9) (hrm : (S.map fun v => v.category).sum ≤ 8) (hf : cc + mc2 ≤ mc ∧ zz + ms2 ≤ ms) (kk : ∀ r h2, Q2 r h2 → V G mX8_back (d, mc, ms, cc + mc2, zz + ms2) 42 L (r.toList ++ S) h2 Q) : V G mX8_back (d, mc, ms, cc, zz) 39 L (a1 :: a0 :: .ref (k + 2) :: S) h Q := V_callV (ci := 8) (T := TX8) (N := 33) hM dX8_back_39 ⟨km_X8_143, ki_X8_swap, ks_X8_swap⟩ cw_X8_swap rfl hc (by decide) hdd rfl rfl hrm hf kk
theorem tX8_cycles_0 {G : gx} {b : bg} {h : ah} {Q : Option Value → ah → Prop} (q1 : V G mX8_cycles b 1 [some (.ref 42)] [.ref 42] h Q) : V G mX8_cycles b 0 [some (.ref 42)] [] h Q := by
  refine V_aload_n dX8_cycles_0 rfl rfl ?_
  exact V_sub (by exact (And.intro rfl True.intro)) (q1)
theorem tX8_cycles_4 {G : gx} {b : bg} {h : ah} {Q : Option Value → ah → Prop} {s0 : Int32} (q1 : (¬ s0 = (0 : Int32)) → V G mX8_cycles b 11 [some (.ref 42)] [.ref 42] h Q) (q2 : (s0 = (0 : Int32)) → Q (some (.int (-3 : Int32))) h) : V G mX8_cycles b 4 [some (.ref 42)] [.int s0] h Q := by
  refine V_if_ne (t := 10) dX8_cycles_4 (by decide) (fun z1 => ?_) (fun z1 => ?_)
  ·
    refine V_aload_n dX8_cycles_10 rfl rfl ?_
    exact V_sub (by exact (And.intro rfl True.intro)) (q1 z1)
  ·
    refine V_bipush dX8_cycles_7 bp_m3 ?_
    exact V_iret dX8_cycles_9 rfl (q2 z1)
theorem tX8_cycles_14 {G : gx} {b : bg} {h : ah} {Q : Option Value → ah → Prop} {mk : Int32} {mn : Int32} {mall : Int32} {msum : Int32} {mexchanges : Int32} {mcycleMany : Int32} {mwhich : Int32} {mlatest : Int32} {mfirstFound : Int32} {mpartMany : Int32} {mlength : Int32} (g42 : h 42 = (8, .inl [.int mk, .int mn, .int mall, .ref 43, .ref 44, .ref 45, .ref 46, .int msum, .ref 47, .int mexchanges, .ref 48, .ref 49, .ref 50, .ref 51, .int mcycleMany, .ref 52, .int mwhich, .ref 53, .ref 54, .ref 55, .ref 56, .ref 57, .ref 58, .int mlatest, .int mfirstFound, .int mpartMany, .ref 59, .int mlength, .ref 60, .ref 61, .ref 62, .ref 63, .ref 64])) (q1 : Q (some (.int mcycleMany)) h) : V G mX8_cycles b 14 [some (.ref 42)] [] h Q := by
  refine V_aload_n dX8_cycles_14 rfl rfl ?_
  refine V_get (ci := 8) (j := 14) (C0 := RX8) (T := TX8) (N := 33) dX8_cycles_15 rfl g42 (by decide) (by decide) kf_X8_140 rfl ?_
  exact V_iret dX8_cycles_18 rfl (q1)
theorem cX8_cycles_1 {G : gx} {d mc ms cc zz d2 mc2 ms2 : Nat} {L : List (Option Value)} {S : List Value} {h : ah} {Q Q2 : Option Value → ah → Prop} {k : Nat} {fs : List Value} (hM : Ct G mX8_isRight d2 mc2 ms2 (.ref (k + 2) :: []) h Q2) (hc : h (k + 2) = (8, .inl fs)) (hdd : d2 < d ∧ d ≤ 9) (hrm : (S.map fun v => v.category).sum ≤ 8) (hf : cc + mc2 ≤ mc ∧ zz + ms2 ≤ ms) (kk : ∀ r h2, Q2 r h2 → V G mX8_cycles (d, mc, ms, cc + mc2, zz + ms2) 4 L (r.toList ++ S) h2 Q) : V G mX8_cycles (d, mc, ms, cc, zz) 1 L (.ref (k + 2) :: S) h Q := V_callV (ci := 8) (T := TX8) (N := 33) hM dX8_cycles_1 ⟨km_X8_136, ki_X8_isRight, ks_X8_isRight⟩ cw_X8_isRight rfl hc (by decide) hdd rfl rfl hrm hf kk
theorem cX8_cycles_11 {G : gx} {d mc ms cc zz d2 mc2 ms2 : Nat} {L : List (Option Value)} {S : List Value} {h : ah} {Q Q2 : Option Value → ah → Prop} {k : Nat} {fs : List Value} (hM : Ct G mX8_findCycles d2 mc2 ms2 (.ref (k + 2) :: []) h Q2) (hc : h (k + 2) = (8, .inl fs)) (hdd : d2 < d ∧ d ≤ 9) (hrm : (S.map fun v => v.category).sum ≤ 8) (hf : cc + mc2 ≤ mc ∧ zz + ms2 ≤ ms) (kk : ∀ r h2, Q2 r h2 → V G mX8_cycles (d, mc, ms, cc + mc2, zz + ms2) 14 L (r.toList ++ S) h2 Q) : V G mX8_cycles (d, mc, ms, cc, zz) 11 L (.ref (k + 2) :: S) h Q := V_callV (ci := 8) (T := TX8) (N := 33) hM dX8_cycles_11 ⟨km_X8_147, ki_X8_findCycles, ks_X8_findCycles⟩ cw_X8_findCycles rfl hc (by decide) hdd rfl rfl hrm hf kk
theorem tX8_cycleOf_0 {G : gx} {b : bg} {h : ah} {Q : Option Value → ah → Prop} {x1 : Int32} (q1 : V G mX8_cycleOf b 1 [some (.ref 42), some (.int x1)] [.ref 42] h Q) : V G mX8_cycleOf b 0 [some (.ref 42), some (.int x1)] [] h Q := by
  refine V_aload_n dX8_cycleOf_0 rfl rfl ?_
  exact V_sub (by exact (And.intro rfl (And.intro rfl True.intro))) (q1)
theorem tX8_cycleOf_4 {G : gx} {b : bg} {h : ah} {Q : Option Value → ah → Prop} {x1 : Int32} {s0 : Int32} (q1 : (¬ s0 = (0 : Int32)) → V G mX8_cycleOf b 12 [some (.ref 42), some (.int x1)] [.int x1, .ref 42] h Q) (q2 : (s0 = (0 : Int32)) → Q (some (.int (-3 : Int32))) h) : V G mX8_cycleOf b 4 [some (.ref 42), some (.int x1)] [.int s0] h Q := by
  refine V_if_ne (t := 10) dX8_cycleOf_4 (by decide) (fun z1 => ?_) (fun z1 => ?_)
  ·
    refine V_aload_n dX8_cycleOf_10 rfl rfl ?_
    refine V_iload_n dX8_cycleOf_11 rfl rfl ?_
    exact V_sub (by exact (And.intro rfl (And.intro rfl True.intro))) (q1 z1)
  ·
    refine V_bipush dX8_cycleOf_7 bp_m3 ?_
    exact V_iret dX8_cycleOf_9 rfl (q2 z1)
theorem tX8_cycleOf_15 {G : gx} {b : bg} {h : ah} {Q : Option Value → ah → Prop} {x1 : Int32} {s0 : Int32} (q1 : (¬ s0 = (0 : Int32)) → V G mX8_cycleOf b 22 [some (.ref 42), some (.int x1)] [.ref 42] h Q) (q2 : (s0 = (0 : Int32)) → Q (some (.int (-2 : Int32))) h) : V G mX8_cycleOf b 15 [some (.ref 42), some (.int x1)] [.int s0] h Q := by
  refine V_if_ne (t := 21) dX8_cycleOf_15 (by decide) (fun z1 => ?_) (fun z1 => ?_)
  ·
    refine V_aload_n dX8_cycleOf_21 rfl rfl ?_
    exact V_sub (by exact (And.intro rfl (And.intro rfl True.intro))) (q1 z1)
  ·
    refine V_bipush dX8_cycleOf_18 bp_m2 ?_
    exact V_iret dX8_cycleOf_20 rfl (q2 z1)
theorem tX8_cycleOf_25 {G : gx} {b : bg} {h : ah} {Q : Option Value → ah → Prop} {x1 : Int32} {mk : Int32} {mn : Int32} {mall : Int32} {msum : Int32} {mexchanges : Int32} {mcycleMany : Int32} {mwhich : Int32} {mlatest : Int32} {mfirstFound : Int32} {mpartMany : Int32} {mlength : Int32} {mnumber : Nat → Int32} (g42 : h 42 = (8, .inl [.int mk, .int mn, .int mall, .ref 43, .ref 44, .ref 45, .ref 46, .int msum, .ref 47, .int mexchanges, .ref 48, .ref 49, .ref 50, .ref 51, .int mcycleMany, .ref 52, .int mwhich, .ref 53, .ref 54, .ref 55, .ref 56, .ref 57, .ref 58, .int mlatest, .int mfirstFound, .int mpartMany, .ref 59, .int mlength, .ref 60, .ref 61, .ref 62, .ref 63, .ref 64])) (g51 : h 51 = (0, .inr (20000, .inl mnumber))) (q1 : vp_in x1 20000) (q2 : Q (some (.int (mnumber x1.toNatClampNeg))) h) : V G mX8_cycleOf b 25 [some (.ref 42), some (.int x1)] [] h Q := by
  refine V_aload_n dX8_cycleOf_25 rfl rfl ?_
  refine V_get (ci := 8) (j := 13) (C0 := RX8) (T := TX8) (N := 33) dX8_cycleOf_26 rfl g42 (by decide) (by decide) kf_X8_35 rfl ?_
  refine V_iload_n dX8_cycleOf_29 rfl rfl ?_
  refine V_iald dX8_cycleOf_30 g51 (q1) ?_
  exact V_iret dX8_cycleOf_31 rfl (q2)
theorem cX8_cycleOf_1 {G : gx} {d mc ms cc zz d2 mc2 ms2 : Nat} {L : List (Option Value)} {S : List Value} {h : ah} {Q Q2 : Option Value → ah → Prop} {k : Nat} {fs : List Value} (hM : Ct G mX8_isRight d2 mc2 ms2 (.ref (k + 2) :: []) h Q2) (hc : h (k + 2) = (8, .inl fs)) (hdd : d2 < d ∧ d ≤ 9) (hrm : (S.map fun v => v.category).sum ≤ 8) (hf : cc + mc2 ≤ mc ∧ zz + ms2 ≤ ms) (kk : ∀ r h2, Q2 r h2 → V G mX8_cycleOf (d, mc, ms, cc + mc2, zz + ms2) 4 L (r.toList ++ S) h2 Q) : V G mX8_cycleOf (d, mc, ms, cc, zz) 1 L (.ref (k + 2) :: S) h Q := V_callV (ci := 8) (T := TX8) (N := 33) hM dX8_cycleOf_1 ⟨km_X8_136, ki_X8_isRight, ks_X8_isRight⟩ cw_X8_isRight rfl hc (by decide) hdd rfl rfl hrm hf kk
theorem cX8_cycleOf_12 {G : gx} {d mc ms cc zz d2 mc2 ms2 : Nat} {L : List (Option Value)} {S : List Value} {h : ah} {Q Q2 : Option Value → ah → Prop} {k : Nat} {fs : List Value} {a0 : Value} (hM : Ct G mX8_isWord d2 mc2 ms2 (.ref (k + 2) :: [a0]) h Q2) (hc : h (k + 2) = (8, .inl fs)) (hdd : d2 < d ∧ d ≤ 9) (hrm : (S.map fun v => v.category).sum ≤ 8) (hf : cc + mc2 ≤ mc ∧ zz + ms2 ≤ ms) (kk : ∀ r h2, Q2 r h2 → V G mX8_cycleOf (d, mc, ms, cc + mc2, zz + ms2) 15 L (r.toList ++ S) h2 Q) : V G mX8_cycleOf (d, mc, ms, cc, zz) 12 L (a0 :: .ref (k + 2) :: S) h Q := V_callV (ci := 8) (T := TX8) (N := 33) hM dX8_cycleOf_12 ⟨km_X8_121, ki_X8_isWord, ks_X8_isWord⟩ cw_X8_isWord rfl hc (by decide) hdd rfl rfl hrm hf kk
theorem cX8_cycleOf_22 {G : gx} {d mc ms cc zz d2 mc2 ms2 : Nat} {L : List (Option Value)} {S : List Value} {h : ah} {Q Q2 : Option Value → ah → Prop} {k : Nat} {fs : List Value} (hM : Ct G mX8_findCycles d2 mc2 ms2 (.ref (k + 2) :: []) h Q2) (hc : h (k + 2) = (8, .inl fs)) (hdd : d2 < d ∧ d ≤ 9) (hrm : (S.map fun v => v.category).sum ≤ 8) (hf : cc + mc2 ≤ mc ∧ zz + ms2 ≤ ms) (kk : ∀ r h2, Q2 r h2 → V G mX8_cycleOf (d, mc, ms, cc + mc2, zz + ms2) 25 L (r.toList ++ S) h2 Q) : V G mX8_cycleOf (d, mc, ms, cc, zz) 22 L (.ref (k + 2) :: S) h Q := V_callV (ci := 8) (T := TX8) (N := 33) hM dX8_cycleOf_22 ⟨km_X8_147, ki_X8_findCycles, ks_X8_findCycles⟩ cw_X8_findCycles rfl hc (by decide) hdd rfl rfl hrm hf kk
theorem tX8_cycle_0 {G : gx} {b : bg} {h : ah} {Q : Option Value → ah → Prop} {x1 : Int32} {x2 : Int32} (q1 : V G mX8_cycle b 1 [some (.ref 42), some (.int x1), some (.int x2)] [.ref 42] h Q) : V G mX8_cycle b 0 [some (.ref 42), some (.int x1), some (.int x2)] [] h Q := by
  refine V_aload_n dX8_cycle_0 rfl rfl ?_
  exact V_sub (by exact (And.intro rfl (And.intro rfl (And.intro rfl True.intro)))) (q1)
theorem tX8_cycle_56 {G : gx} {b : bg} {h : ah} {Q : Option Value → ah → Prop} {x1 : Int32} {x2 : Int32} {x3 : Int32} {x4 : Int32} {x5 : Int32} {mk : Int32} {mn : Int32} {mall : Int32} {msum : Int32} {mexchanges : Int32} {mcycleMany : Int32} {mwhich : Int32} {mlatest : Int32} {mfirstFound : Int32} {mpartMany : Int32} {mlength : Int32} {mnumber : Nat → Int32} (g42 : h 42 = (8, .inl [.int mk, .int mn, .int mall, .ref 43, .ref 44, .ref 45, .ref 46, .int msum, .ref 47, .int mexchanges, .ref 48, .ref 49, .ref 50, .ref 51, .int mcycleMany, .ref 52, .int mwhich, .ref 53, .ref 54, .ref 55, .ref 56, .ref 57, .ref 58, .int mlatest, .int mfirstFound, .int mpartMany, .ref 59, .int mlength, .ref 60, .ref 61, .ref 62, .ref 63, .ref 64])) (g51 : h 51 = (0, .inr (20000, .inl mnumber))) (q1 : (x5 < (0 : Int32)) → (¬ x2 = (0 : Int32)) → Q (some (.int x3)) h) (q2 : (x5 < (0 : Int32)) → (x2 = (0 : Int32)) → Q (some (.int x4)) h) (q3 : (¬ x5 < (0 : Int32)) → vp_in x5 20000) (q4 : (¬ x5 < (0 : Int32)) → (¬ (mnumber x5.toNatClampNeg) = x1) → V G mX8_cycle b 56 [some (.ref 42), some (.int x1), some (.int x2), some (.int x3), some (.int x4), some (.int (x5 + (-1 : Int32)))] [] h Q) (q5 : (¬ x5 < (0 : Int32)) → ((mnumber x5.toNatClampNeg) = x1) → V G mX8_cycle b 56 [some (.ref 42), some (.int x1), some (.int x2), some (.int (x3 + (1 : Int32))), some (.int x5), some (.int (x5 + (-1 : Int32)))] [] h Q) : V G mX8_cycle b 56 [some (.ref 42), some (.int x1), some (.int x2), some (.int x3), some (.int x4), some (.int x5)] [] h Q := by
  refine V_iload dX8_cycle_56 rfl ?_
  refine V_if_lt (t := 85) dX8_cycle_58 (by decide) (fun z1 => ?_) (fun z1 => ?_)
  ·
    refine V_iload_n dX8_cycle_85 rfl rfl ?_
    refine V_if_ne (t := 94) dX8_cycle_86 (by decide) (fun z2 => ?_) (fun z2 => ?_)
    ·
      refine V_iload_n dX8_cycle_94 rfl rfl ?_
      exact V_iret dX8_cycle_95 rfl (q1 z1 z2)
    ·
      refine V_iload dX8_cycle_89 rfl ?_
      refine V_goto (t := 95) dX8_cycle_91 (by decide) ?_
      exact V_iret dX8_cycle_95 rfl (q2 z1 z2)
  ·
    refine V_aload_n dX8_cycle_61 rfl rfl ?_
    refine V_get (ci := 8) (j := 13) (C0 := RX8) (T := TX8) (N := 33) dX8_cycle_62 rfl g42 (by decide) (by decide) kf_X8_35 rfl ?_
    refine V_iload dX8_cycle_65 rfl ?_
    refine V_iald dX8_cycle_67 g51 (q3 z1) ?_
    refine V_iload_n dX8_cycle_68 rfl rfl ?_
    refine V_icmp_ne (t := 79) dX8_cycle_69 (by decide) (fun z3 => ?_) (fun z3 => ?_)
    ·
      refine V_inc dX8_cycle_79 ic_m1 rfl (Nat.le_of_ble_eq_true rfl) ?_
      refine V_goto (t := 56) dX8_cycle_82 (by decide) ?_
      exact V_sub (by exact (And.intro rfl (And.intro rfl (And.intro rfl (And.intro rfl (And.intro rfl (And.intro rfl True.intro))))))) (q4 z1 z3)
    ·
      refine V_inc dX8_cycle_72 ic_1 rfl (Nat.le_of_ble_eq_true rfl) ?_
      refine V_iload dX8_cycle_75 rfl ?_
      refine V_istore dX8_cycle_77 (Nat.le_of_ble_eq_true rfl) ?_
      refine V_inc dX8_cycle_79 ic_m1 rfl (Nat.le_of_ble_eq_true rfl) ?_
      refine V_goto (t := 56) dX8_cycle_82 (by decide) ?_
      exact V_sub (by exact (And.intro rfl (And.intro rfl (And.intro rfl (And.intro rfl (And.intro rfl (And.intro rfl True.intro))))))) (q5 z1 z3)
theorem tX8_cycle_4 {G : gx} {b : bg} {h : ah} {Q : Option Value → ah → Prop} {x1 : Int32} {x2 : Int32} {s0 : Int32} (q1 : (¬ s0 = (0 : Int32)) → V G mX8_cycle b 11 [some (.ref 42), some (.int x1), some (.int x2)] [.ref 42] h Q) (q2 : (s0 = (0 : Int32)) → Q (some (.int (-3 : Int32))) h) : V G mX8_cycle b 4 [some (.ref 42), some (.int x1), some (.int x2)] [.int s0] h Q := by
  refine V_if_ne (t := 10) dX8_cycle_4 (by decide) (fun z1 => ?_) (fun z1 => ?_)
  ·
    refine V_aload_n dX8_cycle_10 rfl rfl ?_
    exact V_sub (by exact (And.intro rfl (And.intro rfl (And.intro rfl True.intro)))) (q1 z1)
  ·
    refine V_bipush dX8_cycle_7 bp_m3 ?_
    exact V_iret dX8_cycle_9 rfl (q2 z1)
theorem tX8_cycle_14 {G : gx} {b : bg} {h : ah} {Q : Option Value → ah → Prop} {x1 : Int32} {x2 : Int32} {mk : Int32} {mn : Int32} {mall : Int32} {msum : Int32} {mexchanges : Int32} {mcycleMany : Int32} {mwhich : Int32} {mlatest : Int32} {mfirstFound : Int32} {mpartMany : Int32} {mlength : Int32} (g42 : h 42 = (8, .inl [.int mk, .int mn, .int mall, .ref 43, .ref 44, .ref 45, .ref 46, .int msum, .ref 47, .int mexchanges, .ref 48, .ref 49, .ref 50, .ref 51, .int mcycleMany, .ref 52, .int mwhich, .ref 53, .ref 54, .ref 55, .ref 56, .ref 57, .ref 58, .int mlatest, .int mfirstFound, .int mpartMany, .ref 59, .int mlength, .ref 60, .ref 61, .ref 62, .ref 63, .ref 64])) (q1 : V G mX8_cycle b 24 [some (.ref 42), some (.int x1), some (.int x2)] [.long ((mcycleMany - (1 : Int32)).toInt64), .long (0 : Int64), .long (x1.toInt64)] h Q) : V G mX8_cycle b 14 [some (.ref 42), some (.int x1), some (.int x2)] [] h Q := by
  refine V_iload_n dX8_cycle_14 rfl rfl ?_
  refine V_i2l dX8_cycle_15 ?_
  refine V_lconst dX8_cycle_16 lc_0 ?_
  refine V_aload_n dX8_cycle_17 rfl rfl ?_
  refine V_get (ci := 8) (j := 14) (C0 := RX8) (T := TX8) (N := 33) dX8_cycle_18 rfl g42 (by decide) (by decide) kf_X8_140 rfl ?_
  refine V_iconst dX8_cycle_21 ic_1 ?_
  refine V_isub dX8_cycle_22 ?_
  refine V_i2l dX8_cycle_23 ?_
  exact V_sub (by exact (And.intro rfl (And.intro rfl (And.intro rfl True.intro)))) (q1)
theorem tX8_cycle_27 {G : gx} {b : bg} {h : ah} {Q : Option Value → ah → Prop} {x1 : Int32} {x2 : Int32} {s0 : Int32} (q1 : (s0 = (0 : Int32)) → Q (some (.int (-2 : Int32))) h) (q2 : (¬ s0 = (0 : Int32)) → V G mX8_cycle b 34 [some (.ref 42), some (.int x1), some (.int x2)] [.long (1 : Int64), .long (0 : Int64), .long (x2.toInt64)] h Q) : V G mX8_cycle b 27 [some (.ref 42), some (.int x1), some (.int x2)] [.int s0] h Q := by
  refine V_if_eq (t := 40) dX8_cycle_27 (by decide) (fun z1 => ?_) (fun z1 => ?_)
  ·
    refine V_bipush dX8_cycle_40 bp_m2 ?_
    exact V_iret dX8_cycle_42 rfl (q1 z1)
  ·
    refine V_iload_n dX8_cycle_30 rfl rfl ?_
    refine V_i2l dX8_cycle_31 ?_
    refine V_lconst dX8_cycle_32 lc_0 ?_
    refine V_lconst dX8_cycle_33 lc_1 ?_
    exact V_sub (by exact (And.intro rfl (And.intro rfl (And.intro rfl True.intro)))) (q2 z1)
theorem tX8_cycle_37 {G : gx} {b : bg} {h : ah} {Q : Option Value → ah → Prop} {x1 : Int32} {x2 : Int32} {s0 : Int32} {mk : Int32} {mn : Int32} {mall : Int32} {msum : Int32} {mexchanges : Int32} {mcycleMany : Int32} {mwhich : Int32} {mlatest : Int32} {mfirstFound : Int32} {mpartMany : Int32} {mlength : Int32} (g42 : h 42 = (8, .inl [.int mk, .int mn, .int mall, .ref 43, .ref 44, .ref 45, .ref 46, .int msum, .ref 47, .int mexchanges, .ref 48, .ref 49, .ref 50, .ref 51, .int mcycleMany, .ref 52, .int mwhich, .ref 53, .ref 54, .ref 55, .ref 56, .ref 57, .ref 58, .int mlatest, .int mfirstFound, .int mpartMany, .ref 59, .int mlength, .ref 60, .ref 61, .ref 62, .ref 63, .ref 64])) (q1 : (¬ s0 = (0 : Int32)) → V G mX8_cycle b 56 [some (.ref 42), some (.int x1), some (.int x2), some (.int (0 : Int32)), some (.int (-1 : Int32)), some (.int (mall - (1 : Int32)))] [] h Q) (q2 : (s0 = (0 : Int32)) → Q (some (.int (-2 : Int32))) h) : V G mX8_cycle b 37 [some (.ref 42), some (.int x1), some (.int x2)] [.int s0] h Q := by
  refine V_if_ne (t := 43) dX8_cycle_37 (by decide) (fun z1 => ?_) (fun z1 => ?_)
  ·
    refine V_iconst dX8_cycle_43 ic_0 ?_
    refine V_istore_n dX8_cycle_44 rfl (Nat.le_of_ble_eq_true rfl) ?_
    refine V_iconst dX8_cycle_45 ic_m1 ?_
    refine V_istore dX8_cycle_46 (Nat.le_of_ble_eq_true rfl) ?_
    refine V_aload_n dX8_cycle_48 rfl rfl ?_
    refine V_get (ci := 8) (j := 2) (C0 := RX8) (T := TX8) (N := 33) dX8_cycle_49 rfl g42 (by decide) (by decide) kf_X8_99 rfl ?_
    refine V_iconst dX8_cycle_52 ic_1 ?_
    refine V_isub dX8_cycle_53 ?_
    refine V_istore dX8_cycle_54 (Nat.le_of_ble_eq_true rfl) ?_
    exact V_sub (by exact (And.intro rfl (And.intro rfl (And.intro rfl (And.intro rfl (And.intro rfl (And.intro rfl True.intro))))))) (q1 z1)
  ·
    refine V_bipush dX8_cycle_40 bp_m2 ?_
    exact V_iret dX8_cycle_42 rfl (q2 z1)
theorem cX8_cycle_1 {G : gx} {d mc ms cc zz d2 mc2 ms2 : Nat} {L : List (Option Value)} {S : List Value} {h : ah} {Q Q2 : Option Value → ah → Prop} {k : Nat} {fs : List Value} (hM : Ct G mX8_isRight d2 mc2 ms2 (.ref (k + 2) :: []) h Q2) (hc : h (k + 2) = (8, .inl fs)) (hdd : d2 < d ∧ d ≤ 9) (hrm : (S.map fun v => v.category).sum ≤ 8) (hf : cc + mc2 ≤ mc ∧ zz + ms2 ≤ ms) (kk : ∀ r h2, Q2 r h2 → V G mX8_cycle (d, mc, ms, cc + mc2, zz + ms2) 4 L (r.toList ++ S) h2 Q) : V G mX8_cycle (d, mc, ms, cc, zz) 1 L (.ref (k + 2) :: S) h Q := V_callV (ci := 8) (T := TX8) (N := 33) hM dX8_cycle_1 ⟨km_X8_136, ki_X8_isRight, ks_X8_isRight⟩ cw_X8_isRight rfl hc (by decide) hdd rfl rfl hrm hf kk
theorem cX8_cycle_11 {G : gx} {d mc ms cc zz d2 mc2 ms2 : Nat} {L : List (Option Value)} {S : List Value} {h : ah} {Q Q2 : Option Value → ah → Prop} {k : Nat} {fs : List Value} (hM : Ct G mX8_findCycles d2 mc2 ms2 (.ref (k + 2) :: []) h Q2) (hc : h (k + 2) = (8, .inl fs)) (hdd : d2 < d ∧ d ≤ 9) (hrm : (S.map fun v => v.category).sum ≤ 8) (hf : cc + mc2 ≤ mc ∧ zz + ms2 ≤ ms) (kk : ∀ r h2, Q2 r h2 → V G mX8_cycle (d, mc, ms, cc + mc2, zz + ms2) 14 L (r.toList ++ S) h2 Q) : V G mX8_cycle (d, mc, ms, cc, zz) 11 L (.ref (k + 2) :: S) h Q := V_callV (ci := 8) (T := TX8) (N := 33) hM dX8_cycle_11 ⟨km_X8_147, ki_X8_findCycles, ks_X8_findCycles⟩ cw_X8_findCycles rfl hc (by decide) hdd rfl rfl hrm hf kk
theorem cX8_cycle_24 {G : gx} {d mc ms cc zz d2 mc2 ms2 : Nat} {L : List (Option Value)} {S : List Value} {h : ah} {Q Q2 : Option Value → ah → Prop} {a0 a1 a2 : Value} (hM : Ct G mX8_in d2 mc2 ms2 [a0, a1, a2] h Q2) (hdd : d2 < d ∧ d ≤ 9) (hrm : (S.map fun v => v.category).sum ≤ 8) (hf : cc + mc2 ≤ mc ∧ zz + ms2 ≤ ms) (kk : ∀ r h2, Q2 r h2 → V G mX8_cycle (d, mc, ms, cc + mc2, zz + ms2) 27 L (r.toList ++ S) h2 Q) : V G mX8_cycle (d, mc, ms, cc, zz) 24 L (a2 :: a1 :: a0 :: S) h Q := V_callS hM dX8_cycle_24 ⟨km_X8_86, kt_X8_in⟩ cw_X8_in hdd rfl rfl hrm hf kk
theorem cX8_cycle_34 {G : gx} {d mc ms cc zz d2 mc2 ms2 : Nat} {L : List (Option Value)} {S : List Value} {h : ah} {Q Q2 : Option Value → ah → Prop} {a0 a1 a2 : Value} (hM : Ct G mX8_in d2 mc2 ms2 [a0, a1, a2] h Q2) (hdd : d2 < d ∧ d ≤ 9) (hrm : (S.map fun v => v.category).sum ≤ 8) (hf : cc + mc2 ≤ mc ∧ zz + ms2 ≤ ms) (kk : ∀ r h2, Q2 r h2 → V G mX8_cycle (d, mc, ms, cc + mc2, zz + ms2) 37 L (r.toList ++ S) h2 Q) : V G mX8_cycle (d, mc, ms, cc, zz) 34 L (a2 :: a1 :: a0 :: S) h Q := V_callS hM dX8_cycle_34 ⟨km_X8_86, kt_X8_in⟩ cw_X8_in hdd rfl rfl hrm hf kk
theorem tX8_groupOf_0 {G : gx} {b : bg} {h : ah} {Q : Option Value → ah → Prop} {x1 : Int32} (q1 : V G mX8_groupOf b 2 [some (.ref 42), some (.int x1), some (.int x1)] [] h Q) : V G mX8_groupOf b 0 [some (.ref 42), some (.int x1)] [] h Q := by
  refine V_iload_n dX8_groupOf_0 rfl rfl ?_
  refine V_istore_n dX8_groupOf_1 rfl (Nat.le_of_ble_eq_true rfl) ?_
  exact V_sub (by exact (And.intro rfl (And.intro rfl (And.intro rfl True.intro)))) (q1)
theorem tX8_groupOf_2 {G : gx} {b : bg} {h : ah} {Q : Option Value → ah → Prop} {x1 : Int32} {x2 : Int32} {mk : Int32} {mn : Int32} {mall : Int32} {msum : Int32} {mexchanges : Int32} {mcycleMany : Int32} {mwhich : Int32} {mlatest : Int32} {mfirstFound : Int32} {mpartMany : Int32} {mlength : Int32} {mgroup : Nat → Int32} (g42 : h 42 = (8, .inl [.int mk, .int mn, .int mall, .ref 43, .ref 44, .ref 45, .ref 46, .int msum, .ref 47, .int mexchanges, .ref 48, .ref 49, .ref 50, .ref 51, .int mcycleMany, .ref 52, .int mwhich, .ref 53, .ref 54, .ref 55, .ref 56, .ref 57, .ref 58, .int mlatest, .int mfirstFound, .int mpartMany, .ref 59, .int mlength, .ref 60, .ref 61, .ref 62, .ref 63, .ref 64])) (g52 : h 52 = (0, .inr (20000, .inl mgroup))) (q1 : vp_in x2 20000) (q2 : ((mgroup x2.toNatClampNeg) = x2) → Q (some (.int x2)) h) (q3 : (¬ (mgroup x2.toNatClampNeg) = x2) → vp_in x2 20000) (q4 : (¬ (mgroup x2.toNatClampNeg) = x2) → V G mX8_groupOf b 2 [some (.ref 42), some (.int x1), some (.int (mgroup x2.toNatClampNeg))] [] h Q) : V G mX8_groupOf b 2 [some (.ref 42), some (.int x1), some (.int x2)] [] h Q := by
  refine V_aload_n dX8_groupOf_2 rfl rfl ?_
  refine V_get (ci := 8) (j := 15) (C0 := RX8) (T := TX8) (N := 33) dX8_groupOf_3 rfl g42 (by decide) (by decide) kf_X8_38 rfl ?_
  refine V_iload_n dX8_groupOf_6 rfl rfl ?_
  refine V_iald dX8_groupOf_7 g52 (q1) ?_
  refine V_iload_n dX8_groupOf_8 rfl rfl ?_
  refine V_icmp_eq (t := 22) dX8_groupOf_9 (by decide) (fun z1 => ?_) (fun z1 => ?_)
  ·
    refine V_iload_n dX8_groupOf_22 rfl rfl ?_
    exact V_iret dX8_groupOf_23 rfl (q2 z1)
  ·
    refine V_aload_n dX8_groupOf_12 rfl rfl ?_
    refine V_get (ci := 8) (j := 15) (C0 := RX8) (T := TX8) (N := 33) dX8_groupOf_13 rfl g42 (by decide) (by decide) kf_X8_38 rfl ?_
    refine V_iload_n dX8_groupOf_16 rfl rfl ?_
    refine V_iald dX8_groupOf_17 g52 (q3 z1) ?_
    refine V_istore_n dX8_groupOf_18 rfl (Nat.le_of_ble_eq_true rfl) ?_
    refine V_goto (t := 2) dX8_groupOf_19 (by decide) ?_
    exact V_sub (by exact (And.intro rfl (And.intro rfl (And.intro rfl True.intro)))) (q4 z1)
theorem tX8_joins_0 {G : gx} {b : bg} {h : ah} {Q : Option Value → ah → Prop} {x1 : Int32} (q1 : V G mX8_joins b 1 [some (.ref 42), some (.int x1)] [.ref 42] h Q) : V G mX8_joins b 0 [some (.ref 42), some (.int x1)] [] h Q := by
  refine V_aload_n dX8_joins_0 rfl rfl ?_
  exact V_sub (by exact (And.intro rfl (And.intro rfl True.intro))) (q1)
theorem tX8_joins_6 {G : gx} {b : bg} {h : ah} {Q : Option Value → ah → Prop} {x1 : Int32} {x2 : Int32} {mk : Int32} {mn : Int32} {mall : Int32} {msum : Int32} {mexchanges : Int32} {mcycleMany : Int32} {mwhich : Int32} {mlatest : Int32} {mfirstFound : Int32} {mpartMany : Int32} {mlength : Int32} {mgroup : Nat → Int32} (g42 : h 42 = (8, .inl [.int mk, .int mn, .int mall, .ref 43, .ref 44, .ref 45, .ref 46, .int msum, .ref 47, .int mexchanges, .ref 48, .ref 49, .ref 50, .ref 51, .int mcycleMany, .ref 52, .int mwhich, .ref 53, .ref 54, .ref 55, .ref 56, .ref 57, .ref 58, .int mlatest, .int mfirstFound, .int mpartMany, .ref 59, .int mlength, .ref 60, .ref 61, .ref 62, .ref 63, .ref 64])) (g52 : h 52 = (0, .inr (20000, .inl mgroup))) (q1 : (mcycleMany ≤ x2) → ¬ mk = 0) (q2 : (mcycleMany ≤ x2) → V G mX8_joins b 42 [some (.ref 42), some (.int x1), some (.int (mall / mk)), some (.int (0 : Int32)), some (.int (0 : Int32))] [] h Q) (q3 : (¬ mcycleMany ≤ x2) → vp_in x2 20000) (q4 : (¬ mcycleMany ≤ x2) → V G mX8_joins b 6 [some (.ref 42), some (.int x1), some (.int (x2 + (1 : Int32)))] [] (va_up h 52 (0, .inr (20000, .inl (upd mgroup x2.toNatClampNeg x2)))) Q) : V G mX8_joins b 6 [some (.ref 42), some (.int x1), some (.int x2)] [] h Q := by
  refine V_iload_n dX8_joins_6 rfl rfl ?_
  refine V_aload_n dX8_joins_7 rfl rfl ?_
  refine V_get (ci := 8) (j := 14) (C0 := RX8) (T := TX8) (N := 33) dX8_joins_8 rfl g42 (by decide) (by decide) kf_X8_140 rfl ?_
  refine V_icmp_ge (t := 27) dX8_joins_11 (by decide) (fun z1 => ?_) (fun z1 => ?_)
  ·
    refine V_aload_n dX8_joins_27 rfl rfl ?_
    refine V_get (ci := 8) (j := 2) (C0 := RX8) (T := TX8) (N := 33) dX8_joins_28 rfl g42 (by decide) (by decide) kf_X8_99 rfl ?_
    refine V_aload_n dX8_joins_31 rfl rfl ?_
    refine V_get (ci := 8) (j := 0) (C0 := RX8) (T := TX8) (N := 33) dX8_joins_32 rfl g42 (by decide) (by decide) kf_X8_92 rfl ?_
    refine V_idiv dX8_joins_35 (q1 z1) ?_
    refine V_istore_n dX8_joins_36 rfl (Nat.le_of_ble_eq_true rfl) ?_
    refine V_iconst dX8_joins_37 ic_0 ?_
    refine V_istore_n dX8_joins_38 rfl (Nat.le_of_ble_eq_true rfl) ?_
    refine V_iconst dX8_joins_39 ic_0 ?_
    refine V_istore dX8_joins_40 (Nat.le_of_ble_eq_true rfl) ?_
    exact V_sub (by exact (And.intro rfl (And.intro rfl (And.intro rfl (And.intro rfl (And.intro rfl True.intro)))))) (q2 z1)
  ·
    refine V_aload_n dX8_joins_14 rfl rfl ?_
    refine V_get (ci := 8) (j := 15) (C0 := RX8) (T := TX8) (N := 33) dX8_joins_15 rfl g42 (by decide) (by decide) kf_X8_38 rfl ?_
    refine V_iload_n dX8_joins_18 rfl rfl ?_
    refine V_iload_n dX8_joins_19 rfl rfl ?_
    refine V_iast dX8_joins_20 g52 (q3 z1) ?_
    refine V_inc dX8_joins_21 ic_1 rfl (Nat.le_of_ble_eq_true rfl) ?_
    refine V_goto (t := 6) dX8_joins_24 (by decide) ?_
    exact V_sub (by exact (And.intro rfl (And.intro rfl (And.intro rfl True.intro)))) (q4 z1)
theorem tX8_joins_42 {G : gx} {b : bg} {h : ah} {Q : Option Value → ah → Prop} {x1 : Int32} {x2 : Int32} {x3 : Int32} {x4 : Int32} {mk : Int32} {mn : Int32} {mall : Int32} {msum : Int32} {mexchanges : Int32} {mcycleMany : Int32} {mwhich : Int32} {mlatest : Int32} {mfirstFound : Int32} {mpartMany : Int32} {mlength : Int32} {mnumber : Nat → Int32} (g42 : h 42 = (8, .inl [.int mk, .int mn, .int mall, .ref 43, .ref 44, .ref 45, .ref 46, .int msum, .ref 47, .int mexchanges, .ref 48, .ref 49, .ref 50, .ref 51, .int mcycleMany, .ref 52, .int mwhich, .ref 53, .ref 54, .ref 55, .ref 56, .ref 57, .ref 58, .int mlatest, .int mfirstFound, .int mpartMany, .ref 59, .int mlength, .ref 60, .ref 61, .ref 62, .ref 63, .ref 64])) (g51 : h 51 = (0, .inr (20000, .inl mnumber))) (q1 : (mall ≤ (x4 + x2)) → Q (some (.int x3)) h) (q2 : (¬ mall ≤ (x4 + x2)) → vp_in x4 20000) (q3 : (¬ mall ≤ (x4 + x2)) → V G mX8_joins b 61 [some (.ref 42), some (.int x1), some (.int x2), some (.int x3), some (.int x4)] [.int (mnumber x4.toNatClampNeg), .ref 42] h Q) : V G mX8_joins b 42 [some (.ref 42), some (.int x1), some (.int x2), some (.int x3), some (.int x4)] [] h Q := by
  refine V_iload dX8_joins_42 rfl ?_
  refine V_iload_n dX8_joins_44 rfl rfl ?_
  refine V_iadd dX8_joins_45 ?_
  refine V_aload_n dX8_joins_46 rfl rfl ?_
  refine V_get (ci := 8) (j := 2) (C0 := RX8) (T := TX8) (N := 33) dX8_joins_47 rfl g42 (by decide) (by decide) kf_X8_99 rfl ?_
  refine V_icmp_ge (t := 178) dX8_joins_50 (by decide) (fun z1 => ?_) (fun z1 => ?_)
  ·
    refine V_iload_n dX8_joins_178 rfl rfl ?_
    exact V_iret dX8_joins_179 rfl (q1 z1)
  ·
    refine V_aload_n dX8_joins_53 rfl rfl ?_
    refine V_aload_n dX8_joins_54 rfl rfl ?_
    refine V_get (ci := 8) (j := 13) (C0 := RX8) (T := TX8) (N := 33) dX8_joins_55 rfl g42 (by decide) (by decide) kf_X8_35 rfl ?_
    refine V_iload dX8_joins_58 rfl ?_
    refine V_iald dX8_joins_60 g51 (q2 z1) ?_
    exact V_sub (by exact (And.intro rfl (And.intro rfl (And.intro rfl (And.intro rfl (And.intro rfl True.intro)))))) (q3 z1)
theorem tX8_joins_4 {G : gx} {b : bg} {h : ah} {Q : Option Value → ah → Prop} {x1 : Int32} (q1 : V G mX8_joins b 6 [some (.ref 42), some (.int x1), some (.int (0 : Int32))] [] h Q) : V G mX8_joins b 4 [some (.ref 42), some (.int x1)] [] h Q := by
  refine V_iconst dX8_joins_4 ic_0 ?_
  refine V_istore_n dX8_joins_5 rfl (Nat.le_of_ble_eq_true rfl) ?_
  exact V_sub (by exact (And.intro rfl (And.intro rfl (And.intro rfl True.intro)))) (q1)
theorem tX8_joins_64 {G : gx} {b : bg} {h : ah} {Q : Option Value → ah → Prop} {x1 : Int32} {x2 : Int32} {x3 : Int32} {x4 : Int32} {s0 : Int32} {mk : Int32} {mn : Int32} {mall : Int32} {msum : Int32} {mexchanges : Int32} {mcycleMany : Int32} {mwhich : Int32} {mlatest : Int32} {mfirstFound : Int32} {mpartMany : Int32} {mlength : Int32} {mnumber : Nat → Int32} (g42 : h 42 = (8, .inl [.int mk, .int mn, .int mall, .ref 43, .ref 44, .ref 45, .ref 46, .int msum, .ref 47, .int mexchanges, .ref 48, .ref 49, .ref 50, .ref 51, .int mcycleMany, .ref 52, .int mwhich, .ref 53, .ref 54, .ref 55, .ref 56, .ref 57, .ref 58, .int mlatest, .int mfirstFound, .int mpartMany, .ref 59, .int mlength, .ref 60, .ref 61, .ref 62, .ref 63, .ref 64])) (g51 : h 51 = (0, .inr (20000, .inl mnumber))) (q1 : vp_in (x4 + x2) 20000) (q2 : V G mX8_joins b 76 [some (.ref 42), some (.int x1), some (.int x2), some (.int x3), some (.int x4), some (.int s0)] [.int (mnumber (x4 + x2).toNatClampNeg), .ref 42] h Q) : V G mX8_joins b 64 [some (.ref 42), some (.int x1), some (.int x2), some (.int x3), some (.int x4)] [.int s0] h Q := by
  refine V_istore dX8_joins_64 (Nat.le_of_ble_eq_true rfl) ?_
  refine V_aload_n dX8_joins_66 rfl rfl ?_
  refine V_aload_n dX8_joins_67 rfl rfl ?_
  refine V_get (ci := 8) (j := 13) (C0 := RX8) (T := TX8) (N := 33) dX8_joins_68 rfl g42 (by decide) (by decide) kf_X8_35 rfl ?_
  refine V_iload dX8_joins_71 rfl ?_
  refine V_iload_n dX8_joins_73 rfl rfl ?_
  refine V_iadd dX8_joins_74 ?_
  refine V_iald dX8_joins_75 g51 (q1) ?_
  exact V_sub (by exact (And.intro rfl (And.intro rfl (And.intro rfl (And.intro rfl (And.intro rfl (And.intro rfl True.intro))))))) (q2)
theorem tX8_joins_79 {G : gx} {b : bg} {h : ah} {Q : Option Value → ah → Prop} {x1 : Int32} {x2 : Int32} {x3 : Int32} {x4 : Int32} {x5 : Int32} {s0 : Int32} {mk : Int32} {mn : Int32} {mall : Int32} {msum : Int32} {mexchanges : Int32} {mcycleMany : Int32} {mwhich : Int32} {mlatest : Int32} {mfirstFound : Int32} {mpartMany : Int32} {mlength : Int32} {mgroup : Nat → Int32} (g42 : h 42 = (8, .inl [.int mk, .int mn, .int mall, .ref 43, .ref 44, .ref 45, .ref 46, .int msum, .ref 47, .int mexchanges, .ref 48, .ref 49, .ref 50, .ref 51, .int mcycleMany, .ref 52, .int mwhich, .ref 53, .ref 54, .ref 55, .ref 56, .ref 57, .ref 58, .int mlatest, .int mfirstFound, .int mpartMany, .ref 59, .int mlength, .ref 60, .ref 61, .ref 62, .ref 63, .ref 64])) (g52 : h 52 = (0, .inr (20000, .inl mgroup))) (q1 : (x5 = s0) → V G mX8_joins b 42 [some (.ref 42), some (.int x1), some (.int x2), some (.int x3), some (.int (x4 + (1 : Int32)))] [] h Q) (q2 : (¬ x5 = s0) → (x5 ≤ s0) → (x5 ≤ s0) → vp_in s0 20000) (q3 : (¬ x5 = s0) → (x5 ≤ s0) → (x5 ≤ s0) → (x1 = (0 : Int32)) → V G mX8_joins b 42 [some (.ref 42), some (.int x1), some (.int x2), some (.int (x3 + (1 : Int32))), some (.int (x4 + (1 : Int32)))] [] (va_up h 52 (0, .inr (20000, .inl (upd mgroup s0.toNatClampNeg x5)))) Q) (q4 : (¬ x5 = s0) → (x5 ≤ s0) → (x5 ≤ s0) → (¬ x1 = (0 : Int32)) → V G mX8_joins b 132 [some (.ref 42), some (.int x1), some (.int x2), some (.int x3), some (.int x4), some (.int x5), some (.int s0)] [.int (x4 + x2), .int x4, .ref 42] (va_up h 52 (0, .inr (20000, .inl (upd mgroup s0.toNatClampNeg x5)))) Q) (q5 : (¬ x5 = s0) → (x5 ≤ s0) → (¬ x5 ≤ s0) → vp_in s0 20000) (q6 : (¬ x5 = s0) → (x5 ≤ s0) → (¬ x5 ≤ s0) → (x1 = (0 : Int32)) → V G mX8_joins b 42 [some (.ref 42), some (.int x1), some (.int x2), some (.int (x3 + (1 : Int32))), some (.int (x4 + (1 : Int32)))] [] (va_up h 52 (0, .inr (20000, .inl (upd mgroup s0.toNatClampNeg s0)))) Q) (q7 : (¬ x5 = s0) → (x5 ≤ s0) → (¬ x5 ≤ s0) → (¬ x1 = (0 : Int32)) → V G mX8_joins b 132 [some (.ref 42), some (.int x1), some (.int x2), some (.int x3), some (.int x4), some (.int x5), some (.int s0)] [.int (x4 + x2), .int x4, .ref 42] (va_up h 52 (0, .inr (20000, .inl (upd mgroup s0.toNatClampNeg s0)))) Q) (q8 : (¬ x5 = s0) → (¬ x5 ≤ s0) → (x5 ≤ s0) → vp_in x5 20000) (q9 : (¬ x5 = s0) → (¬ x5 ≤ s0) → (x5 ≤ s0) → (x1 = (0 : Int32)) → V G mX8_joins b 42 [some (.ref 42), some (.int x1), some (.int x2), some (.int (x3 + (1 : Int32))), some (.int (x4 + (1 : Int32)))] [] (va_up h 52 (0, .inr (20000, .inl (upd mgroup x5.toNatClampNeg x5)))) Q) (q10 : (¬ x5 = s0) → (¬ x5 ≤ s0) → (x5 ≤ s0) → (¬ x1 = (0 : Int32)) → V G mX8_joins b 132 [some (.ref 42), some (.int x1), some (.int x2), some (.int x3), some (.int x4), some (.int x5), some (.int s0)] [.int (x4 + x2), .int x4, .ref 42] (va_up h 52 (0, .inr (20000, .inl (upd mgroup x5.toNatClampNeg x5)))) Q) (q11 : (¬ x5 = s0) → (¬ x5 ≤ s0) → (¬ x5 ≤ s0) → vp_in x5 20000) (q12 : (¬ x5 = s0) → (¬ x5 ≤ s0) → (¬ x5 ≤ s0) → (x1 = (0 : Int32)) → V G mX8_joins b 42 [some (.ref 42), some (.int x1), some (.int x2), some (.int (x3 + (1 : Int32))), some (.int (x4 + (1 : Int32)))] [] (va_up h 52 (0, .inr (20000, .inl (upd mgroup x5.toNatClampNeg s0)))) Q) (q13 : (¬ x5 = s0) → (¬ x5 ≤ s0) → (¬ x5 ≤ s0) → (¬ x1 = (0 : Int32)) → V G mX8_joins b 132 [some (.ref 42), some (.int x1), some (.int x2), some (.int x3), some (.int x4), some (.int x5), some (.int s0)] [.int (x4 + x2), .int x4, .ref 42] (va_up h 52 (0, .inr (20000, .inl (upd mgroup x5.toNatClampNeg s0)))) Q) : V G mX8_joins b 79 [some (.ref 42), some (.int x1), some (.int x2), some (.int x3), some (.int x4), some (.int x5)] [.int s0] h Q := by
  refine V_istore dX8_joins_79 (Nat.le_of_ble_eq_true rfl) ?_
  refine V_iload dX8_joins_81 rfl ?_
  refine V_iload dX8_joins_83 rfl ?_
  refine V_icmp_eq (t := 172) dX8_joins_85 (by decide) (fun z1 => ?_) (fun z1 => ?_)
  ·
    refine V_inc dX8_joins_172 ic_1 rfl (Nat.le_of_ble_eq_true rfl) ?_
    refine V_goto (t := 42) dX8_joins_175 (by decide) ?_
    exact V_sub (by exact (And.intro rfl (And.intro rfl (And.intro rfl (And.intro rfl (And.intro rfl True.intro)))))) (q1 z1)
  ·
    refine V_aload_n dX8_joins_88 rfl rfl ?_
    refine V_get (ci := 8) (j := 15) (C0 := RX8) (T := TX8) (N := 33) dX8_joins_89 rfl g42 (by decide) (by decide) kf_X8_38 rfl ?_
    refine V_iload dX8_joins_92 rfl ?_
    refine V_iload dX8_joins_94 rfl ?_
    refine V_icmp_le (t := 104) dX8_joins_96 (by decide) (fun z2 => ?_) (fun z2 => ?_)
    ·
      refine V_iload dX8_joins_104 rfl ?_
      refine V_iload dX8_joins_106 rfl ?_
      refine V_iload dX8_joins_108 rfl ?_
      refine V_icmp_le (t := 118) dX8_joins_110 (by decide) (fun z3 => ?_) (fun z3 => ?_)
      ·
        refine V_iload dX8_joins_118 rfl ?_
        refine V_iast dX8_joins_120 g52 (q2 z1 z2 z3) ?_
        refine V_iload_n dX8_joins_121 rfl rfl ?_
        refine V_if_eq (t := 169) dX8_joins_122 (by decide) (fun z4 => ?_) (fun z4 => ?_)
        ·
          refine V_inc dX8_joins_169 ic_1 rfl (Nat.le_of_ble_eq_true rfl) ?_
          refine V_inc dX8_joins_172 ic_1 rfl (Nat.le_of_ble_eq_true rfl) ?_
          refine V_goto (t := 42) dX8_joins_175 (by decide) ?_
          exact V_sub (by exact (And.intro rfl (And.intro rfl (And.intro rfl (And.intro rfl (And.intro rfl True.intro)))))) (q3 z1 z2 z3 z4)
        ·
          refine V_aload_n dX8_joins_125 rfl rfl ?_
          refine V_iload dX8_joins_126 rfl ?_
          refine V_iload dX8_joins_128 rfl ?_
          refine V_iload_n dX8_joins_130 rfl rfl ?_
          refine V_iadd dX8_joins_131 ?_
          exact V_sub (by exact (And.intro rfl (And.intro rfl (And.intro rfl (And.intro rfl (And.intro rfl (And.intro rfl (And.intro rfl True.intro)))))))) (q4 z1 z2 z3 z4)
      ·
        refine V_iload dX8_joins_113 rfl ?_
        refine V_goto (t := 120) dX8_joins_115 (by decide) ?_
        refine V_iast dX8_joins_120 g52 (q5 z1 z2 z3) ?_
        refine V_iload_n dX8_joins_121 rfl rfl ?_
        refine V_if_eq (t := 169) dX8_joins_122 (by decide) (fun z5 => ?_) (fun z5 => ?_)
        ·
          refine V_inc dX8_joins_169 ic_1 rfl (Nat.le_of_ble_eq_true rfl) ?_
          refine V_inc dX8_joins_172 ic_1 rfl (Nat.le_of_ble_eq_true rfl) ?_
          refine V_goto (t := 42) dX8_joins_175 (by decide) ?_
          exact V_sub (by exact (And.intro rfl (And.intro rfl (And.intro rfl (And.intro rfl (And.intro rfl True.intro)))))) (q6 z1 z2 z3 z5)
        ·
          refine V_aload_n dX8_joins_125 rfl rfl ?_
          refine V_iload dX8_joins_126 rfl ?_
          refine V_iload dX8_joins_128 rfl ?_
          refine V_iload_n dX8_joins_130 rfl rfl ?_
          refine V_iadd dX8_joins_131 ?_
          exact V_sub (by exact (And.intro rfl (And.intro rfl (And.intro rfl (And.intro rfl (And.intro rfl (And.intro rfl (And.intro rfl True.intro)))))))) (q7 z1 z2 z3 z5)
    ·
      refine V_iload dX8_joins_99 rfl ?_
      refine V_goto (t := 106) dX8_joins_101 (by decide) ?_
      refine V_iload dX8_joins_106 rfl ?_
      refine V_iload dX8_joins_108 rfl ?_
      refine V_icmp_le (t := 118) dX8_joins_110 (by decide) (fun z6 => ?_) (fun z6 => ?_)
      ·
        refine V_iload dX8_joins_118 rfl ?_
        refine V_iast dX8_joins_120 g52 (q8 z1 z2 z6) ?_
        refine V_iload_n dX8_joins_121 rfl rfl ?_
        refine V_if_eq (t := 169) dX8_joins_122 (by decide) (fun z7 => ?_) (fun z7 => ?_)
        ·
          refine V_inc dX8_joins_169 ic_1 rfl (Nat.le_of_ble_eq_true rfl) ?_
          refine V_inc dX8_joins_172 ic_1 rfl (Nat.le_of_ble_eq_true rfl) ?_
          refine V_goto (t := 42) dX8_joins_175 (by decide) ?_
          exact V_sub (by exact (And.intro rfl (And.intro rfl (And.intro rfl (And.intro rfl (And.intro rfl True.intro)))))) (q9 z1 z2 z6 z7)
        ·
          refine V_aload_n dX8_joins_125 rfl rfl ?_
          refine V_iload dX8_joins_126 rfl ?_
          refine V_iload dX8_joins_128 rfl ?_
          refine V_iload_n dX8_joins_130 rfl rfl ?_
          refine V_iadd dX8_joins_131 ?_
          exact V_sub (by exact (And.intro rfl (And.intro rfl (And.intro rfl (And.intro rfl (And.intro rfl (And.intro rfl (And.intro rfl True.intro)))))))) (q10 z1 z2 z6 z7)
      ·
        refine V_iload dX8_joins_113 rfl ?_
        refine V_goto (t := 120) dX8_joins_115 (by decide) ?_
        refine V_iast dX8_joins_120 g52 (q11 z1 z2 z6) ?_
        refine V_iload_n dX8_joins_121 rfl rfl ?_
        refine V_if_eq (t := 169) dX8_joins_122 (by decide) (fun z8 => ?_) (fun z8 => ?_)
        ·
          refine V_inc dX8_joins_169 ic_1 rfl (Nat.le_of_ble_eq_true rfl) ?_
          refine V_inc dX8_joins_172 ic_1 rfl (Nat.le_of_ble_eq_true rfl) ?_
          refine V_goto (t := 42) dX8_joins_175 (by decide) ?_
          exact V_sub (by exact (And.intro rfl (And.intro rfl (And.intro rfl (And.intro rfl (And.intro rfl True.intro)))))) (q12 z1 z2 z6 z8)
        ·
          refine V_aload_n dX8_joins_125 rfl rfl ?_
          refine V_iload dX8_joins_126 rfl ?_
          refine V_iload dX8_joins_128 rfl ?_
          refine V_iload_n dX8_joins_130 rfl rfl ?_
          refine V_iadd dX8_joins_131 ?_
          exact V_sub (by exact (And.intro rfl (And.intro rfl (And.intro rfl (And.intro rfl (And.intro rfl (And.intro rfl (And.intro rfl True.intro)))))))) (q13 z1 z2 z6 z8)
theorem tX8_joins_135 {G : gx} {b : bg} {h : ah} {Q : Option Value → ah → Prop} {x1 : Int32} {x2 : Int32} {x3 : Int32} {x4 : Int32} {x5 : Int32} {x6 : Int32} {mk : Int32} {mn : Int32} {mall : Int32} {msum : Int32} {mexchanges : Int32} {mcycleMany : Int32} {mwhich : Int32} {mlatest : Int32} {mfirstFound : Int32} {mpartMany : Int32} {mlength : Int32} {mone : Nat → Int32} {mother : Nat → Int32} (g42 : h 42 = (8, .inl [.int mk, .int mn, .int mall, .ref 43, .ref 44, .ref 45, .ref 46, .int msum, .ref 47, .int mexchanges, .ref 48, .ref 49, .ref 50, .ref 51, .int mcycleMany, .ref 52, .int mwhich, .ref 53, .ref 54, .ref 55, .ref 56, .ref 57, .ref 58, .int mlatest, .int mfirstFound, .int mpartMany, .ref 59, .int mlength, .ref 60, .ref 61, .ref 62, .ref 63, .ref 64])) (g48 : h 48 = (0, .inr (400, .inl mone))) (g49 : h 49 = (0, .inr (400, .inl mother))) (q1 : vp_in mexchanges 400) (q2 : vp_in mexchanges 400) (q3 : V G mX8_joins b 42 [some (.ref 42), some (.int x1), some (.int x2), some (.int (x3 + (1 : Int32))), some (.int (x4 + (1 : Int32)))] [] (va_up (va_up (va_up h 48 (0, .inr (400, .inl (upd mone mexchanges.toNatClampNeg x4)))) 49 (0, .inr (400, .inl (upd mother mexchanges.toNatClampNeg (x4 + x2))))) 42 (8, .inl [.int mk, .int mn, .int mall, .ref 43, .ref 44, .ref 45, .ref 46, .int msum, .ref 47, .int (mexchanges + (1 : Int32)), .ref 48, .ref 49, .ref 50, .ref 51, .int mcycleMany, .ref 52, .int mwhich, .ref 53, .ref 54, .ref 55, .ref 56, .ref 57, .ref 58, .int mlatest, .int mfirstFound, .int mpartMany, .ref 59, .int mlength, .ref 60, .ref 61, .ref 62, .ref 63, .ref 64])) Q) : V G mX8_joins b 135 [some (.ref 42), some (.int x1), some (.int x2), some (.int x3), some (.int x4), some (.int x5), some (.int x6)] [] h Q := by
  refine V_aload_n dX8_joins_135 rfl rfl ?_
  refine V_get (ci := 8) (j := 10) (C0 := RX8) (T := TX8) (N := 33) dX8_joins_136 rfl g42 (by decide) (by decide) kf_X8_25 rfl ?_
  refine V_aload_n dX8_joins_139 rfl rfl ?_
  refine V_get (ci := 8) (j := 9) (C0 := RX8) (T := TX8) (N := 33) dX8_joins_140 rfl g42 (by decide) (by decide) kf_X8_133 rfl ?_
  refine V_iload dX8_joins_143 rfl ?_
  refine V_iast dX8_joins_145 g48 (q1) ?_
  refine V_aload_n dX8_joins_146 rfl rfl ?_
  refine V_get (ci := 8) (j := 11) (C0 := RX8) (T := TX8) (N := 33) dX8_joins_147 rfl g42 (by decide) (by decide) kf_X8_28 rfl ?_
  refine V_aload_n dX8_joins_150 rfl rfl ?_
  refine V_get (ci := 8) (j := 9) (C0 := RX8) (T := TX8) (N := 33) dX8_joins_151 rfl g42 (by decide) (by decide) kf_X8_133 rfl ?_
  refine V_iload dX8_joins_154 rfl ?_
  refine V_iload_n dX8_joins_156 rfl rfl ?_
  refine V_iadd dX8_joins_157 ?_
  refine V_iast dX8_joins_158 g49 (q2) ?_
  refine V_aload_n dX8_joins_159 rfl rfl ?_
  refine V_dup dX8_joins_160 rfl ?_
  refine V_get (ci := 8) (j := 9) (C0 := RX8) (T := TX8) (N := 33) dX8_joins_161 rfl g42 (by decide) (by decide) kf_X8_133 rfl ?_
  refine V_iconst dX8_joins_164 ic_1 ?_
  refine V_iadd dX8_joins_165 ?_
  refine V_put (ci := 8) (j := 9) (C0 := RX8) (T := TX8) (N := 33) (ty := .int) dX8_joins_166 rfl g42 (by decide) (by decide) kf_X8_133 rfl (by decide +kernel) rfl rfl (Nat.le_of_ble_eq_true rfl) ?_
  refine V_inc dX8_joins_169 ic_1 rfl (Nat.le_of_ble_eq_true rfl) ?_
  refine V_inc dX8_joins_172 ic_1 rfl (Nat.le_of_ble_eq_true rfl) ?_
  refine V_goto (t := 42) dX8_joins_175 (by decide) ?_
  exact V_sub (by exact (And.intro rfl (And.intro rfl (And.intro rfl (And.intro rfl (And.intro rfl True.intro)))))) (q3)
theorem cX8_joins_1 {G : gx} {d mc ms cc zz d2 mc2 ms2 : Nat} {L : List (Option Value)} {S : List Value} {h : ah} {Q Q2 : Option Value → ah → Prop} {k : Nat} {fs : List Value} (hM : Ct G mX8_findCycles d2 mc2 ms2 (.ref (k + 2) :: []) h Q2) (hc : h (k + 2) = (8, .inl fs)) (hdd : d2 < d ∧ d ≤ 9) (hrm : (S.map fun v => v.category).sum ≤ 8) (hf : cc + mc2 ≤ mc ∧ zz + ms2 ≤ ms) (kk : ∀ r h2, Q2 r h2 → V G mX8_joins (d, mc, ms, cc + mc2, zz + ms2) 4 L (r.toList ++ S) h2 Q) : V G mX8_joins (d, mc, ms, cc, zz) 1 L (.ref (k + 2) :: S) h Q := V_callV (ci := 8) (T := TX8) (N := 33) hM dX8_joins_1 ⟨km_X8_147, ki_X8_findCycles, ks_X8_findCycles⟩ cw_X8_findCycles rfl hc (by decide) hdd rfl rfl hrm hf kk
theorem cX8_joins_61 {G : gx} {d mc ms cc zz d2 mc2 ms2 : Nat} {L : List (Option Value)} {S : List Value} {h : ah} {Q Q2 : Option Value → ah → Prop} {k : Nat} {fs : List Value} {a0 : Value} (hM : Ct G mX8_groupOf d2 mc2 ms2 (.ref (k + 2) :: [a0]) h Q2) (hc : h (k + 2) = (8, .inl fs)) (hdd : d2 < d ∧ d ≤ 9) (hrm : (S.map fun v => v.category).sum ≤ 8) (hf : cc + mc2 ≤ mc ∧ zz + ms2 ≤ ms) (kk : ∀ r h2, Q2 r h2 → V G mX8_joins (d, mc, ms, cc + mc2, zz + ms2) 64 L (r.toList ++ S) h2 Q) : V G mX8_joins (d, mc, ms, cc, zz) 61 L (a0 :: .ref (k + 2) :: S) h Q := V_callV (ci := 8) (T := TX8) (N := 33) hM dX8_joins_61 ⟨km_X8_150, ki_X8_groupOf, ks_X8_groupOf⟩ cw_X8_groupOf rfl hc (by decide) hdd rfl rfl hrm hf kk
theorem cX8_joins_76 {G : gx} {d mc ms cc zz d2 mc2 ms2 : Nat} {L : List (Option Value)} {S : List Value} {h : ah} {Q Q2 : Option Value → ah → Prop} {k : Nat} {fs : List Value} {a0 : Value} (hM : Ct G mX8_groupOf d2 mc2 ms2 (.ref (k + 2) :: [a0]) h Q2) (hc : h (k + 2) = (8, .inl fs)) (hdd : d2 < d ∧ d ≤ 9) (hrm : (S.map fun v => v.category).sum ≤ 8) (hf : cc + mc2 ≤ mc ∧ zz + ms2 ≤ ms) (kk : ∀ r h2, Q2 r h2 → V G mX8_joins (d, mc, ms, cc + mc2, zz + ms2) 79 L (r.toList ++ S) h2 Q) : V G mX8_joins (d, mc, ms, cc, zz) 76 L (a0 :: .ref (k + 2) :: S) h Q := V_callV (ci := 8) (T := TX8) (N := 33) hM dX8_joins_76 ⟨km_X8_150, ki_X8_groupOf, ks_X8_groupOf⟩ cw_X8_groupOf rfl hc (by decide) hdd rfl rfl hrm hf kk
theorem cX8_joins_132 {G : gx} {d mc ms cc zz d2 mc2 ms2 : Nat} {L : List (Option Value)} {S : List Value} {h : ah} {Q Q2 : Option Value → ah → Prop} {k : Nat} {fs : List Value} {a0 a1 : Value} (hM : Ct G mX8_swap d2 mc2 ms2 (.ref (k + 2) :: [a0, a1]) h Q2) (hc : h (k + 2) = (8, .inl fs)) (hdd : d2 < d ∧ d ≤ 9) (hrm : (S.map fun v => v.category).sum ≤ 8) (hf : cc + mc2 ≤ mc ∧ zz + ms2 ≤ ms) (kk : ∀ r h2, Q2 r h2 → V G mX8_joins (d, mc, ms, cc + mc2, zz + ms2) 135 L (r.toList ++ S) h2 Q) : V G mX8_joins (d, mc, ms, cc, zz) 132 L (a1 :: a0 :: .ref (k + 2) :: S) h Q := V_callV (ci := 8) (T := TX8) (N := 33) hM dX8_joins_132 ⟨km_X8_143, ki_X8_swap, ks_X8_swap⟩ cw_X8_swap rfl hc (by decide) hdd rfl rfl hrm hf kk
theorem tX8_join_0 {G : gx} {b : bg} {h : ah} {Q : Option Value → ah → Prop} (q1 : V G mX8_join b 1 [some (.ref 42)] [.ref 42] h Q) : V G mX8_join b 0 [some (.ref 42)] [] h Q := by
  refine V_aload_n dX8_join_0 rfl rfl ?_
  exact V_sub (by exact (And.intro rfl True.intro)) (q1)
theorem tX8_join_4 {G : gx} {b : bg} {h : ah} {Q : Option Value → ah → Prop} {s0 : Int32} {mk : Int32} {mn : Int32} {mall : Int32} {msum : Int32} {mexchanges : Int32} {mcycleMany : Int32} {mwhich : Int32} {mlatest : Int32} {mfirstFound : Int32} {mpartMany : Int32} {mlength : Int32} (g42 : h 42 = (8, .inl [.int mk, .int mn, .int mall, .ref 43, .ref 44, .ref 45, .ref 46, .int msum, .ref 47, .int mexchanges, .ref 48, .ref 49, .ref 50, .ref 51, .int mcycleMany, .ref 52, .int mwhich, .ref 53, .ref 54, .ref 55, .ref 56, .ref 57, .ref 58, .int mlatest, .int mfirstFound, .int mpartMany, .ref 59, .int mlength, .ref 60, .ref 61, .ref 62, .ref 63, .ref 64])) (q1 : (¬ s0 = (0 : Int32)) → V G mX8_join b 16 [some (.ref 42)] [.int (0 : Int32), .ref 42, .int mexchanges] h Q) (q2 : (s0 = (0 : Int32)) → Q (some (.int (-3 : Int32))) h) : V G mX8_join b 4 [some (.ref 42)] [.int s0] h Q := by
  refine V_if_ne (t := 10) dX8_join_4 (by decide) (fun z1 => ?_) (fun z1 => ?_)
  ·
    refine V_aload_n dX8_join_10 rfl rfl ?_
    refine V_get (ci := 8) (j := 9) (C0 := RX8) (T := TX8) (N := 33) dX8_join_11 rfl g42 (by decide) (by decide) kf_X8_133 rfl ?_
    refine V_aload_n dX8_join_14 rfl rfl ?_
    refine V_iconst dX8_join_15 ic_0 ?_
    exact V_sub (by exact (And.intro rfl True.intro)) (q1 z1)
  ·
    refine V_bipush dX8_join_7 bp_m3 ?_
    exact V_iret dX8_join_9 rfl (q2 z1)
theorem tX8_join_19 {G : gx} {b : bg} {h : ah} {Q : Option Value → ah → Prop} {s0 : Int32} {s1 : Int32} (q1 : ((s1 + s0) ≤ (400 : Int32)) → V G mX8_join b 31 [some (.ref 42)] [.int (1 : Int32), .ref 42] h Q) (q2 : (¬ (s1 + s0) ≤ (400 : Int32)) → Q (some (.int (-4 : Int32))) h) : V G mX8_join b 19 [some (.ref 42)] [.int s0, .int s1] h Q := by
  refine V_iadd dX8_join_19 ?_
  refine V_sipush dX8_join_20 sp_400 ?_
  refine V_icmp_le (t := 29) dX8_join_23 (by decide) (fun z1 => ?_) (fun z1 => ?_)
  ·
    refine V_aload_n dX8_join_29 rfl rfl ?_
    refine V_iconst dX8_join_30 ic_1 ?_
    exact V_sub (by exact (And.intro rfl True.intro)) (q1 z1)
  ·
    refine V_bipush dX8_join_26 bp_m4 ?_
    exact V_iret dX8_join_28 rfl (q2 z1)
theorem tX8_join_34 {G : gx} {b : bg} {h : ah} {Q : Option Value → ah → Prop} {s0 : Int32} (q1 : Q (some (.int s0)) h) : V G mX8_join b 34 [some (.ref 42)] [.int s0] h Q := by
  exact V_iret dX8_join_34 rfl (q1)
theorem cX8_join_1 {G : gx} {d mc ms cc zz d2 mc2 ms2 : Nat} {L : List (Option Value)} {S : List Value} {h : ah} {Q Q2 : Option Value → ah → Prop} {k : Nat} {fs : List Value} (hM : Ct G mX8_isRight d2 mc2 ms2 (.ref (k + 2) :: []) h Q2) (hc : h (k + 2) = (8, .inl fs)) (hdd : d2 < d ∧ d ≤ 9) (hrm : (S.map fun v => v.category).sum ≤ 8) (hf : cc + mc2 ≤ mc ∧ zz + ms2 ≤ ms) (kk : ∀ r h2, Q2 r h2 → V G mX8_join (d, mc, ms, cc + mc2, zz + ms2) 4 L (r.toList ++ S) h2 Q) : V G mX8_join (d, mc, ms, cc, zz) 1 L (.ref (k + 2) :: S) h Q := V_callV (ci := 8) (T := TX8) (N := 33) hM dX8_join_1 ⟨km_X8_136, ki_X8_isRight, ks_X8_isRight⟩ cw_X8_isRight rfl hc (by decide) hdd rfl rfl hrm hf kk
theorem cX8_join_16 {G : gx} {d mc ms cc zz d2 mc2 ms2 : Nat} {L : List (Option Value)} {S : List Value} {h : ah} {Q Q2 : Option Value → ah → Prop} {k : Nat} {fs : List Value} {a0 : Value} (hM : Ct G mX8_joins d2 mc2 ms2 (.ref (k + 2) :: [a0]) h Q2) (hc : h (k + 2) = (8, .inl fs)) (hdd : d2 < d ∧ d ≤ 9) (hrm : (S.map fun v => v.category).sum ≤ 8) (hf : cc + mc2 ≤ mc ∧ zz + ms2 ≤ ms) (kk : ∀ r h2, Q2 r h2 → V G mX8_join (d, mc, ms, cc + mc2, zz + ms2) 19 L (r.toList ++ S) h2 Q) : V G mX8_join (d, mc, ms, cc, zz) 16 L (a0 :: .ref (k + 2) :: S) h Q := V_callV (ci := 8) (T := TX8) (N := 33) hM dX8_join_16 ⟨km_X8_153, ki_X8_joins, ks_X8_joins⟩ cw_X8_joins rfl hc (by decide) hdd rfl rfl hrm hf kk
theorem cX8_join_31 {G : gx} {d mc ms cc zz d2 mc2 ms2 : Nat} {L : List (Option Value)} {S : List Value} {h : ah} {Q Q2 : Option Value → ah → Prop} {k : Nat} {fs : List Value} {a0 : Value} (hM : Ct G mX8_joins d2 mc2 ms2 (.ref (k + 2) :: [a0]) h Q2) (hc : h (k + 2) = (8, .inl fs)) (hdd : d2 < d ∧ d ≤ 9) (hrm : (S.map fun v => v.category).sum ≤ 8) (hf : cc + mc2 ≤ mc ∧ zz + ms2 ≤ ms) (kk : ∀ r h2, Q2 r h2 → V G mX8_join (d, mc, ms, cc + mc2, zz + ms2) 34 L (r.toList ++ S) h2 Q) : V G mX8_join (d, mc, ms, cc, zz) 31 L (a0 :: .ref (k + 2) :: S) h Q := V_callV (ci := 8) (T := TX8) (N := 33) hM dX8_join_31 ⟨km_X8_153, ki_X8_joins, ks_X8_joins⟩ cw_X8_joins rfl hc (by decide) hdd rfl rfl hrm hf kk
theorem tX8_leastRound_0 {G : gx} {b : bg} {h : ah} {Q : Option Value → ah → Prop} (q1 : V G mX8_leastRound b 4 [some (.ref 42), some (.int (0 : Int32)), some (.int (0 : Int32))] [] h Q) : V G mX8_leastRound b 0 [some (.ref 42)] [] h Q := by
  refine V_iconst dX8_leastRound_0 ic_0 ?_
  refine V_istore_n dX8_leastRound_1 rfl (Nat.le_of_ble_eq_true rfl) ?_
  refine V_iconst dX8_leastRound_2 ic_0 ?_
  refine V_istore_n dX8_leastRound_3 rfl (Nat.le_of_ble_eq_true rfl) ?_
  exact V_sub (by exact (And.intro rfl (And.intro rfl (And.intro rfl True.intro)))) (q1)
theorem tX8_leastRound_4 {G : gx} {b : bg} {h : ah} {Q : Option Value → ah → Prop} {x1 : Int32} {x2 : Int32} {mk : Int32} {mn : Int32} {mall : Int32} {msum : Int32} {mexchanges : Int32} {mcycleMany : Int32} {mwhich : Int32} {mlatest : Int32} {mfirstFound : Int32} {mpartMany : Int32} {mlength : Int32} {mleasts : Nat → Int32} (g42 : h 42 = (8, .inl [.int mk, .int mn, .int mall, .ref 43, .ref 44, .ref 45, .ref 46, .int msum, .ref 47, .int mexchanges, .ref 48, .ref 49, .ref 50, .ref 51, .int mcycleMany, .ref 52, .int mwhich, .ref 53, .ref 54, .ref 55, .ref 56, .ref 57, .ref 58, .int mlatest, .int mfirstFound, .int mpartMany, .ref 59, .int mlength, .ref 60, .ref 61, .ref 62, .ref 63, .ref 64])) (g43 : h 43 = (0, .inr (20000, .inl mleasts))) (q1 : (mall ≤ x2) → Q none h) (q2 : (¬ mall ≤ x2) → vp_in x2 20000) (q3 : (¬ mall ≤ x2) → (¬ (mleasts x2.toNatClampNeg) = x2) → V G mX8_leastRound b 4 [some (.ref 42), some (.int x1), some (.int (x2 + (1 : Int32)))] [] h Q) (q4 : (¬ mall ≤ x2) → ((mleasts x2.toNatClampNeg) = x2) → V G mX8_leastRound b 24 [some (.ref 42), some (.int x1), some (.int x2)] [.int x2, .ref 42] h Q) : V G mX8_leastRound b 4 [some (.ref 42), some (.int x1), some (.int x2)] [] h Q := by
  refine V_iload_n dX8_leastRound_4 rfl rfl ?_
  refine V_aload_n dX8_leastRound_5 rfl rfl ?_
  refine V_get (ci := 8) (j := 2) (C0 := RX8) (T := TX8) (N := 33) dX8_leastRound_6 rfl g42 (by decide) (by decide) kf_X8_99 rfl ?_
  refine V_icmp_ge (t := 87) dX8_leastRound_9 (by decide) (fun z1 => ?_) (fun z1 => ?_)
  ·
    exact V_vret dX8_leastRound_87 rfl (q1 z1)
  ·
    refine V_aload_n dX8_leastRound_12 rfl rfl ?_
    refine V_get (ci := 8) (j := 3) (C0 := RX8) (T := TX8) (N := 33) dX8_leastRound_13 rfl g42 (by decide) (by decide) kf_X8_7 rfl ?_
    refine V_iload_n dX8_leastRound_16 rfl rfl ?_
    refine V_iald dX8_leastRound_17 g43 (q2 z1) ?_
    refine V_iload_n dX8_leastRound_18 rfl rfl ?_
    refine V_icmp_ne (t := 81) dX8_leastRound_19 (by decide) (fun z2 => ?_) (fun z2 => ?_)
    ·
      refine V_inc dX8_leastRound_81 ic_1 rfl (Nat.le_of_ble_eq_true rfl) ?_
      refine V_goto (t := 4) dX8_leastRound_84 (by decide) ?_
      exact V_sub (by exact (And.intro rfl (And.intro rfl (And.intro rfl True.intro)))) (q3 z1 z2)
    ·
      refine V_aload_n dX8_leastRound_22 rfl rfl ?_
      refine V_iload_n dX8_leastRound_23 rfl rfl ?_
      exact V_sub (by exact (And.intro rfl (And.intro rfl (And.intro rfl True.intro)))) (q4 z1 z2)
theorem tX8_leastRound_42 {G : gx} {b : bg} {h : ah} {Q : Option Value → ah → Prop} {x1 : Int32} {x2 : Int32} {x3 : Int32} {x4 : Int32} {x5 : Int32} {mk : Int32} {mn : Int32} {mall : Int32} {msum : Int32} {mexchanges : Int32} {mcycleMany : Int32} {mwhich : Int32} {mlatest : Int32} {mfirstFound : Int32} {mpartMany : Int32} {mlength : Int32} {mround : Nat → Int32} (g42 : h 42 = (8, .inl [.int mk, .int mn, .int mall, .ref 43, .ref 44, .ref 45, .ref 46, .int msum, .ref 47, .int mexchanges, .ref 48, .ref 49, .ref 50, .ref 51, .int mcycleMany, .ref 52, .int mwhich, .ref 53, .ref 54, .ref 55, .ref 56, .ref 57, .ref 58, .int mlatest, .int mfirstFound, .int mpartMany, .ref 59, .int mlength, .ref 60, .ref 61, .ref 62, .ref 63, .ref 64])) (g53 : h 53 = (0, .inr (20000, .inl mround))) (q1 : (x3 ≤ x5) → V G mX8_leastRound b 4 [some (.ref 42), some (.int x1), some (.int (x2 + (1 : Int32)))] [] h Q) (q2 : (¬ x3 ≤ x5) → ¬ x4 = 0) (q3 : (¬ x3 ≤ x5) → ¬ mk = 0) (q4 : (¬ x3 ≤ x5) → vp_in x1 20000) (q5 : (¬ x3 ≤ x5) → ¬ mk = 0) (q6 : (¬ x3 ≤ x5) → V G mX8_leastRound b 42 [some (.ref 42), some (.int (x1 + (1 : Int32))), some (.int x2), some (.int x3), some (.int (x4 / mk)), some (.int (x5 + (1 : Int32)))] [] (va_up h 53 (0, .inr (20000, .inl (upd mround x1.toNatClampNeg ((x2 / x4) - (x2 / x4) / mk * mk))))) Q) : V G mX8_leastRound b 42 [some (.ref 42), some (.int x1), some (.int x2), some (.int x3), some (.int x4), some (.int x5)] [] h Q := by
  refine V_iload dX8_leastRound_42 rfl ?_
  refine V_iload_n dX8_leastRound_44 rfl rfl ?_
  refine V_icmp_ge (t := 81) dX8_leastRound_45 (by decide) (fun z1 => ?_) (fun z1 => ?_)
  ·
    refine V_inc dX8_leastRound_81 ic_1 rfl (Nat.le_of_ble_eq_true rfl) ?_
    refine V_goto (t := 4) dX8_leastRound_84 (by decide) ?_
    exact V_sub (by exact (And.intro rfl (And.intro rfl (And.intro rfl True.intro)))) (q1 z1)
  ·
    refine V_aload_n dX8_leastRound_48 rfl rfl ?_
    refine V_get (ci := 8) (j := 17) (C0 := RX8) (T := TX8) (N := 33) dX8_leastRound_49 rfl g42 (by decide) (by decide) kf_X8_41 rfl ?_
    refine V_iload_n dX8_leastRound_52 rfl rfl ?_
    refine V_iload_n dX8_leastRound_53 rfl rfl ?_
    refine V_iload dX8_leastRound_54 rfl ?_
    refine V_idiv dX8_leastRound_56 (q2 z1) ?_
    refine V_aload_n dX8_leastRound_57 rfl rfl ?_
    refine V_get (ci := 8) (j := 0) (C0 := RX8) (T := TX8) (N := 33) dX8_leastRound_58 rfl g42 (by decide) (by decide) kf_X8_92 rfl ?_
    refine V_irem dX8_leastRound_61 (q3 z1) ?_
    refine V_iast dX8_leastRound_62 g53 (q4 z1) ?_
    refine V_iload dX8_leastRound_63 rfl ?_
    refine V_aload_n dX8_leastRound_65 rfl rfl ?_
    refine V_get (ci := 8) (j := 0) (C0 := RX8) (T := TX8) (N := 33) dX8_leastRound_66 rfl g42 (by decide) (by decide) kf_X8_92 rfl ?_
    refine V_idiv dX8_leastRound_69 (q5 z1) ?_
    refine V_istore dX8_leastRound_70 (Nat.le_of_ble_eq_true rfl) ?_
    refine V_inc dX8_leastRound_72 ic_1 rfl (Nat.le_of_ble_eq_true rfl) ?_
    refine V_inc dX8_leastRound_75 ic_1 rfl (Nat.le_of_ble_eq_true rfl) ?_
    refine V_goto (t := 42) dX8_leastRound_78 (by decide) ?_
    exact V_sub (by exact (And.intro rfl (And.intro rfl (And.intro rfl (And.intro rfl (And.intro rfl (And.intro rfl True.intro))))))) (q6 z1)
theorem tX8_leastRound_27 {G : gx} {b : bg} {h : ah} {Q : Option Value → ah → Prop} {x1 : Int32} {x2 : Int32} {s0 : Int32} {mk : Int32} {mn : Int32} {mall : Int32} {msum : Int32} {mexchanges : Int32} {mcycleMany : Int32} {mwhich : Int32} {mlatest : Int32} {mfirstFound : Int32} {mpartMany : Int32} {mlength : Int32} (g42 : h 42 = (8, .inl [.int mk, .int mn, .int mall, .ref 43, .ref 44, .ref 45, .ref 46, .int msum, .ref 47, .int mexchanges, .ref 48, .ref 49, .ref 50, .ref 51, .int mcycleMany, .ref 52, .int mwhich, .ref 53, .ref 54, .ref 55, .ref 56, .ref 57, .ref 58, .int mlatest, .int mfirstFound, .int mpartMany, .ref 59, .int mlength, .ref 60, .ref 61, .ref 62, .ref 63, .ref 64])) (q1 : ¬ mk = 0) (q2 : V G mX8_leastRound b 42 [some (.ref 42), some (.int x1), some (.int x2), some (.int s0), some (.int (mall / mk)), some (.int (0 : Int32))] [] h Q) : V G mX8_leastRound b 27 [some (.ref 42), some (.int x1), some (.int x2)] [.int s0] h Q := by
  refine V_istore_n dX8_leastRound_27 rfl (Nat.le_of_ble_eq_true rfl) ?_
  refine V_aload_n dX8_leastRound_28 rfl rfl ?_
  refine V_get (ci := 8) (j := 2) (C0 := RX8) (T := TX8) (N := 33) dX8_leastRound_29 rfl g42 (by decide) (by decide) kf_X8_99 rfl ?_
  refine V_aload_n dX8_leastRound_32 rfl rfl ?_
  refine V_get (ci := 8) (j := 0) (C0 := RX8) (T := TX8) (N := 33) dX8_leastRound_33 rfl g42 (by decide) (by decide) kf_X8_92 rfl ?_
  refine V_idiv dX8_leastRound_36 (q1) ?_
  refine V_istore dX8_leastRound_37 (Nat.le_of_ble_eq_true rfl) ?_
  refine V_iconst dX8_leastRound_39 ic_0 ?_
  refine V_istore dX8_leastRound_40 (Nat.le_of_ble_eq_true rfl) ?_
  exact V_sub (by exact (And.intro rfl (And.intro rfl (And.intro rfl (And.intro rfl (And.intro rfl (And.intro rfl True.intro))))))) (q2)
theorem cX8_leastRound_24 {G : gx} {d mc ms cc zz d2 mc2 ms2 : Nat} {L : List (Option Value)} {S : List Value} {h : ah} {Q Q2 : Option Value → ah → Prop} {k : Nat} {fs : List Value} {a0 : Value} (hM : Ct G mX8_sizeOf d2 mc2 ms2 (.ref (k + 2) :: [a0]) h Q2) (hc : h (k + 2) = (8, .inl fs)) (hdd : d2 < d ∧ d ≤ 9) (hrm : (S.map fun v => v.category).sum ≤ 8) (hf : cc + mc2 ≤ mc ∧ zz + ms2 ≤ ms) (kk : ∀ r h2, Q2 r h2 → V G mX8_leastRound (d, mc, ms, cc + mc2, zz + ms2) 27 L (r.toList ++ S) h2 Q) : V G mX8_leastRound (d, mc, ms, cc, zz) 24 L (a0 :: .ref (k + 2) :: S) h Q := V_callV (ci := 8) (T := TX8) (N := 33) hM dX8_leastRound_24 ⟨km_X8_127, ki_X8_sizeOf, ks_X8_sizeOf⟩ cw_X8_sizeOf rfl hc (by decide) hdd rfl rfl hrm hf kk
theorem tX8_greedyRound_0 {G : gx} {b : bg} {h : ah} {Q : Option Value → ah → Prop} (q1 : V G mX8_greedyRound b 2 [some (.ref 42), some (.int (0 : Int32))] [] h Q) : V G mX8_greedyRound b 0 [some (.ref 42)] [] h Q := by
  refine V_iconst dX8_greedyRound_0 ic_0 ?_
  refine V_istore_n dX8_greedyRound_1 rfl (Nat.le_of_ble_eq_true rfl) ?_
  exact V_sub (by exact (And.intro rfl (And.intro rfl True.intro))) (q1)
theorem tX8_greedyRound_2 {G : gx} {b : bg} {h : ah} {Q : Option Value → ah → Prop} {x1 : Int32} {mk : Int32} {mn : Int32} {mall : Int32} {msum : Int32} {mexchanges : Int32} {mcycleMany : Int32} {mwhich : Int32} {mlatest : Int32} {mfirstFound : Int32} {mpartMany : Int32} {mlength : Int32} {mseen : Nat → Int32} (g42 : h 42 = (8, .inl [.int mk, .int mn, .int mall, .ref 43, .ref 44, .ref 45, .ref 46, .int msum, .ref 47, .int mexchanges, .ref 48, .ref 49, .ref 50, .ref 51, .int mcycleMany, .ref 52, .int mwhich, .ref 53, .ref 54, .ref 55, .ref 56, .ref 57, .ref 58, .int mlatest, .int mfirstFound, .int mpartMany, .ref 59, .int mlength, .ref 60, .ref 61, .ref 62, .ref 63, .ref 64])) (g50 : h 50 = (2, .inr (20000, .inl mseen))) (q1 : (mall ≤ x1) → ¬ mk = 0) (q2 : (mall ≤ x1) → vp_in (0 : Int32) 20000) (q3 : (mall ≤ x1) → V G mX8_greedyRound b 44 [some (.ref 42), some (.int (mall / mk)), some (.int (0 : Int32)), some (.int (0 : Int32))] [] (va_up h 50 (2, .inr (20000, .inl (upd mseen (0 : Int32).toNatClampNeg (vp_nar .boolean (1 : Int32)))))) Q) (q4 : (¬ mall ≤ x1) → vp_in x1 20000) (q5 : (¬ mall ≤ x1) → V G mX8_greedyRound b 2 [some (.ref 42), some (.int (x1 + (1 : Int32)))] [] (va_up h 50 (2, .inr (20000, .inl (upd mseen x1.toNatClampNeg (vp_nar .boolean (0 : Int32)))))) Q) : V G mX8_greedyRound b 2 [some (.ref 42), some (.int x1)] [] h Q := by
  refine V_iload_n dX8_greedyRound_2 rfl rfl ?_
  refine V_aload_n dX8_greedyRound_3 rfl rfl ?_
  refine V_get (ci := 8) (j := 2) (C0 := RX8) (T := TX8) (N := 33) dX8_greedyRound_4 rfl g42 (by decide) (by decide) kf_X8_99 rfl ?_
  refine V_icmp_ge (t := 23) dX8_greedyRound_7 (by decide) (fun z1 => ?_) (fun z1 => ?_)
  ·
    refine V_aload_n dX8_greedyRound_23 rfl rfl ?_
    refine V_get (ci := 8) (j := 2) (C0 := RX8) (T := TX8) (N := 33) dX8_greedyRound_24 rfl g42 (by decide) (by decide) kf_X8_99 rfl ?_
    refine V_aload_n dX8_greedyRound_27 rfl rfl ?_
    refine V_get (ci := 8) (j := 0) (C0 := RX8) (T := TX8) (N := 33) dX8_greedyRound_28 rfl g42 (by decide) (by decide) kf_X8_92 rfl ?_
    refine V_idiv dX8_greedyRound_31 (q1 z1) ?_
    refine V_istore_n dX8_greedyRound_32 rfl (Nat.le_of_ble_eq_true rfl) ?_
    refine V_iconst dX8_greedyRound_33 ic_0 ?_
    refine V_istore_n dX8_greedyRound_34 rfl (Nat.le_of_ble_eq_true rfl) ?_
    refine V_aload_n dX8_greedyRound_35 rfl rfl ?_
    refine V_get (ci := 8) (j := 12) (C0 := RX8) (T := TX8) (N := 33) dX8_greedyRound_36 rfl g42 (by decide) (by decide) kf_X8_31 rfl ?_
    refine V_iconst dX8_greedyRound_39 ic_0 ?_
    refine V_iconst dX8_greedyRound_40 ic_1 ?_
    refine V_zast dX8_greedyRound_41 g50 (q2 z1) ?_
    refine V_iconst dX8_greedyRound_42 ic_0 ?_
    refine V_istore_n dX8_greedyRound_43 rfl (Nat.le_of_ble_eq_true rfl) ?_
    exact V_sub (by exact (And.intro rfl (And.intro rfl (And.intro rfl (And.intro rfl True.intro))))) (q3 z1)
  ·
    refine V_aload_n dX8_greedyRound_10 rfl rfl ?_
    refine V_get (ci := 8) (j := 12) (C0 := RX8) (T := TX8) (N := 33) dX8_greedyRound_11 rfl g42 (by decide) (by decide) kf_X8_31 rfl ?_
    refine V_iload_n dX8_greedyRound_14 rfl rfl ?_
    refine V_iconst dX8_greedyRound_15 ic_0 ?_
    refine V_zast dX8_greedyRound_16 g50 (q4 z1) ?_
    refine V_inc dX8_greedyRound_17 ic_1 rfl (Nat.le_of_ble_eq_true rfl) ?_
    refine V_goto (t := 2) dX8_greedyRound_20 (by decide) ?_
    exact V_sub (by exact (And.intro rfl (And.intro rfl True.intro))) (q5 z1)
theorem tX8_greedyRound_44 {G : gx} {b : bg} {h : ah} {Q : Option Value → ah → Prop} {x1 : Int32} {x2 : Int32} {x3 : Int32} {mk : Int32} {mn : Int32} {mall : Int32} {msum : Int32} {mexchanges : Int32} {mcycleMany : Int32} {mwhich : Int32} {mlatest : Int32} {mfirstFound : Int32} {mpartMany : Int32} {mlength : Int32} {mround : Nat → Int32} (g42 : h 42 = (8, .inl [.int mk, .int mn, .int mall, .ref 43, .ref 44, .ref 45, .ref 46, .int msum, .ref 47, .int mexchanges, .ref 48, .ref 49, .ref 50, .ref 51, .int mcycleMany, .ref 52, .int mwhich, .ref 53, .ref 54, .ref 55, .ref 56, .ref 57, .ref 58, .int mlatest, .int mfirstFound, .int mpartMany, .ref 59, .int mlength, .ref 60, .ref 61, .ref 62, .ref 63, .ref 64])) (g53 : h 53 = (0, .inr (20000, .inl mround))) (q1 : (mn ≤ x3) → V G mX8_greedyRound b 78 [some (.ref 42), some (.int x1), some (.int x2), some (.int mn)] [] h Q) (q2 : (¬ mn ≤ x3) → (mall ≤ x3) → V G mX8_greedyRound b 78 [some (.ref 42), some (.int x1), some (.int x2), some (.int mn)] [] h Q) (q3 : (¬ mn ≤ x3) → (¬ mall ≤ x3) → vp_in x3 20000) (q4 : (¬ mn ≤ x3) → (¬ mall ≤ x3) → V G mX8_greedyRound b 44 [some (.ref 42), some (.int x1), some (.int x2), some (.int (x3 + (1 : Int32)))] [] (va_up h 53 (0, .inr (20000, .inl (upd mround x3.toNatClampNeg (0 : Int32))))) Q) : V G mX8_greedyRound b 44 [some (.ref 42), some (.int x1), some (.int x2), some (.int x3)] [] h Q := by
  refine V_iload_n dX8_greedyRound_44 rfl rfl ?_
  refine V_aload_n dX8_greedyRound_45 rfl rfl ?_
  refine V_get (ci := 8) (j := 1) (C0 := RX8) (T := TX8) (N := 33) dX8_greedyRound_46 rfl g42 (by decide) (by decide) kf_X8_96 rfl ?_
  refine V_icmp_ge (t := 73) dX8_greedyRound_49 (by decide) (fun z1 => ?_) (fun z1 => ?_)
  ·
    refine V_aload_n dX8_greedyRound_73 rfl rfl ?_
    refine V_get (ci := 8) (j := 1) (C0 := RX8) (T := TX8) (N := 33) dX8_greedyRound_74 rfl g42 (by decide) (by decide) kf_X8_96 rfl ?_
    refine V_istore_n dX8_greedyRound_77 rfl (Nat.le_of_ble_eq_true rfl) ?_
    exact V_sub (by exact (And.intro rfl (And.intro rfl (And.intro rfl (And.intro rfl True.intro))))) (q1 z1)
  ·
    refine V_iload_n dX8_greedyRound_52 rfl rfl ?_
    refine V_aload_n dX8_greedyRound_53 rfl rfl ?_
    refine V_get (ci := 8) (j := 2) (C0 := RX8) (T := TX8) (N := 33) dX8_greedyRound_54 rfl g42 (by decide) (by decide) kf_X8_99 rfl ?_
    refine V_icmp_ge (t := 73) dX8_greedyRound_57 (by decide) (fun z2 => ?_) (fun z2 => ?_)
    ·
      refine V_aload_n dX8_greedyRound_73 rfl rfl ?_
      refine V_get (ci := 8) (j := 1) (C0 := RX8) (T := TX8) (N := 33) dX8_greedyRound_74 rfl g42 (by decide) (by decide) kf_X8_96 rfl ?_
      refine V_istore_n dX8_greedyRound_77 rfl (Nat.le_of_ble_eq_true rfl) ?_
      exact V_sub (by exact (And.intro rfl (And.intro rfl (And.intro rfl (And.intro rfl True.intro))))) (q2 z1 z2)
    ·
      refine V_aload_n dX8_greedyRound_60 rfl rfl ?_
      refine V_get (ci := 8) (j := 17) (C0 := RX8) (T := TX8) (N := 33) dX8_greedyRound_61 rfl g42 (by decide) (by decide) kf_X8_41 rfl ?_
      refine V_iload_n dX8_greedyRound_64 rfl rfl ?_
      refine V_iconst dX8_greedyRound_65 ic_0 ?_
      refine V_iast dX8_greedyRound_66 g53 (q3 z1 z2) ?_
      refine V_inc dX8_greedyRound_67 ic_1 rfl (Nat.le_of_ble_eq_true rfl) ?_
      refine V_goto (t := 44) dX8_greedyRound_70 (by decide) ?_
      exact V_sub (by exact (And.intro rfl (And.intro rfl (And.intro rfl (And.intro rfl True.intro))))) (q4 z1 z2)
theorem tX8_greedyRound_78 {G : gx} {b : bg} {h : ah} {Q : Option Value → ah → Prop} {x1 : Int32} {x2 : Int32} {x3 : Int32} {mk : Int32} {mn : Int32} {mall : Int32} {msum : Int32} {mexchanges : Int32} {mcycleMany : Int32} {mwhich : Int32} {mlatest : Int32} {mfirstFound : Int32} {mpartMany : Int32} {mlength : Int32} (g42 : h 42 = (8, .inl [.int mk, .int mn, .int mall, .ref 43, .ref 44, .ref 45, .ref 46, .int msum, .ref 47, .int mexchanges, .ref 48, .ref 49, .ref 50, .ref 51, .int mcycleMany, .ref 52, .int mwhich, .ref 53, .ref 54, .ref 55, .ref 56, .ref 57, .ref 58, .int mlatest, .int mfirstFound, .int mpartMany, .ref 59, .int mlength, .ref 60, .ref 61, .ref 62, .ref 63, .ref 64])) (q1 : (mall ≤ x3) → Q none h) (q2 : (¬ mall ≤ x3) → V G mX8_greedyRound b 94 [some (.ref 42), some (.int x1), some (.int x2), some (.int x3), some (.int (mk - (1 : Int32)))] [] h Q) : V G mX8_greedyRound b 78 [some (.ref 42), some (.int x1), some (.int x2), some (.int x3)] [] h Q := by
  refine V_iload_n dX8_greedyRound_78 rfl rfl ?_
  refine V_aload_n dX8_greedyRound_79 rfl rfl ?_
  refine V_get (ci := 8) (j := 2) (C0 := RX8) (T := TX8) (N := 33) dX8_greedyRound_80 rfl g42 (by decide) (by decide) kf_X8_99 rfl ?_
  refine V_icmp_ge (t := 157) dX8_greedyRound_83 (by decide) (fun z1 => ?_) (fun z1 => ?_)
  ·
    exact V_vret dX8_greedyRound_157 rfl (q1 z1)
  ·
    refine V_aload_n dX8_greedyRound_86 rfl rfl ?_
    refine V_get (ci := 8) (j := 0) (C0 := RX8) (T := TX8) (N := 33) dX8_greedyRound_87 rfl g42 (by decide) (by decide) kf_X8_92 rfl ?_
    refine V_iconst dX8_greedyRound_90 ic_1 ?_
    refine V_isub dX8_greedyRound_91 ?_
    refine V_istore dX8_greedyRound_92 (Nat.le_of_ble_eq_true rfl) ?_
    exact V_sub (by exact (And.intro rfl (And.intro rfl (And.intro rfl (And.intro rfl (And.intro rfl True.intro)))))) (q2 z1)
theorem tX8_greedyRound_94 {G : gx} {b : bg} {h : ah} {Q : Option Value → ah → Prop} {x1 : Int32} {x2 : Int32} {x3 : Int32} {x4 : Int32} {mk : Int32} {mn : Int32} {mall : Int32} {msum : Int32} {mexchanges : Int32} {mcycleMany : Int32} {mwhich : Int32} {mlatest : Int32} {mfirstFound : Int32} {mpartMany : Int32} {mlength : Int32} {mseen : Nat → Int32} {mround : Nat → Int32} (g42 : h 42 = (8, .inl [.int mk, .int mn, .int mall, .ref 43, .ref 44, .ref 45, .ref 46, .int msum, .ref 47, .int mexchanges, .ref 48, .ref 49, .ref 50, .ref 51, .int mcycleMany, .ref 52, .int mwhich, .ref 53, .ref 54, .ref 55, .ref 56, .ref 57, .ref 58, .int mlatest, .int mfirstFound, .int mpartMany, .ref 59, .int mlength, .ref 60, .ref 61, .ref 62, .ref 63, .ref 64])) (g50 : h 50 = (2, .inr (20000, .inl mseen))) (g53 : h 53 = (0, .inr (20000, .inl mround))) (q1 : (x4 < (0 : Int32)) → ¬ x1 = 0) (q2 : (x4 < (0 : Int32)) → vp_in (((x2 - x2 / x1 * x1) * mk) + x4) 20000) (q3 : (x4 < (0 : Int32)) → vp_in x3 20000) (q4 : (x4 < (0 : Int32)) → V G mX8_greedyRound b 78 [some (.ref 42), some (.int x1), some (.int (((x2 - x2 / x1 * x1) * mk) + x4)), some (.int (x3 + (1 : Int32)))] [] (va_up (va_up h 50 (2, .inr (20000, .inl (upd mseen (((x2 - x2 / x1 * x1) * mk) + x4).toNatClampNeg (vp_nar .boolean (1 : Int32)))))) 53 (0, .inr (20000, .inl (upd mround x3.toNatClampNeg x4)))) Q) (q5 : (¬ x4 < (0 : Int32)) → ¬ x1 = 0) (q6 : (¬ x4 < (0 : Int32)) → vp_in (((x2 - x2 / x1 * x1) * mk) + x4) 20000) (q7 : (¬ x4 < (0 : Int32)) → ((mseen (((x2 - x2 / x1 * x1) * mk) + x4).toNatClampNeg) = (0 : Int32)) → ¬ x1 = 0) (q8 : (¬ x4 < (0 : Int32)) → ((mseen (((x2 - x2 / x1 * x1) * mk) + x4).toNatClampNeg) = (0 : Int32)) → vp_in (((x2 - x2 / x1 * x1) * mk) + x4) 20000) (q9 : (¬ x4 < (0 : Int32)) → ((mseen (((x2 - x2 / x1 * x1) * mk) + x4).toNatClampNeg) = (0 : Int32)) → vp_in x3 20000) (q10 : (¬ x4 < (0 : Int32)) → ((mseen (((x2 - x2 / x1 * x1) * mk) + x4).toNatClampNeg) = (0 : Int32)) → V G mX8_greedyRound b 78 [some (.ref 42), some (.int x1), some (.int (((x2 - x2 / x1 * x1) * mk) + x4)), some (.int (x3 + (1 : Int32)))] [] (va_up (va_up h 50 (2, .inr (20000, .inl (upd mseen (((x2 - x2 / x1 * x1) * mk) + x4).toNatClampNeg (vp_nar .boolean (1 : Int32)))))) 53 (0, .inr (20000, .inl (upd mround x3.toNatClampNeg x4)))) Q) (q11 : (¬ x4 < (0 : Int32)) → (¬ (mseen (((x2 - x2 / x1 * x1) * mk) + x4).toNatClampNeg) = (0 : Int32)) → V G mX8_greedyRound b 94 [some (.ref 42), some (.int x1), some (.int x2), some (.int x3), some (.int (x4 + (-1 : Int32)))] [] h Q) : V G mX8_greedyRound b 94 [some (.ref 42), some (.int x1), some (.int x2), some (.int x3), some (.int x4)] [] h Q := by
  refine V_iload dX8_greedyRound_94 rfl ?_
  refine V_if_lt (t := 124) dX8_greedyRound_96 (by decide) (fun z1 => ?_) (fun z1 => ?_)
  ·
    refine V_iload_n dX8_greedyRound_124 rfl rfl ?_
    refine V_iload_n dX8_greedyRound_125 rfl rfl ?_
    refine V_irem dX8_greedyRound_126 (q1 z1) ?_
    refine V_aload_n dX8_greedyRound_127 rfl rfl ?_
    refine V_get (ci := 8) (j := 0) (C0 := RX8) (T := TX8) (N := 33) dX8_greedyRound_128 rfl g42 (by decide) (by decide) kf_X8_92 rfl ?_
    refine V_imul dX8_greedyRound_131 ?_
    refine V_iload dX8_greedyRound_132 rfl ?_
    refine V_iadd dX8_greedyRound_134 ?_
    refine V_istore_n dX8_greedyRound_135 rfl (Nat.le_of_ble_eq_true rfl) ?_
    refine V_aload_n dX8_greedyRound_136 rfl rfl ?_
    refine V_get (ci := 8) (j := 12) (C0 := RX8) (T := TX8) (N := 33) dX8_greedyRound_137 rfl g42 (by decide) (by decide) kf_X8_31 rfl ?_
    refine V_iload_n dX8_greedyRound_140 rfl rfl ?_
    refine V_iconst dX8_greedyRound_141 ic_1 ?_
    refine V_zast dX8_greedyRound_142 g50 (q2 z1) ?_
    refine V_aload_n dX8_greedyRound_143 rfl rfl ?_
    refine V_get (ci := 8) (j := 17) (C0 := RX8) (T := TX8) (N := 33) dX8_greedyRound_144 rfl g42 (by decide) (by decide) kf_X8_41 rfl ?_
    refine V_iload_n dX8_greedyRound_147 rfl rfl ?_
    refine V_iload dX8_greedyRound_148 rfl ?_
    refine V_iast dX8_greedyRound_150 g53 (q3 z1) ?_
    refine V_inc dX8_greedyRound_151 ic_1 rfl (Nat.le_of_ble_eq_true rfl) ?_
    refine V_goto (t := 78) dX8_greedyRound_154 (by decide) ?_
    exact V_sub (by exact (And.intro rfl (And.intro rfl (And.intro rfl (And.intro rfl True.intro))))) (q4 z1)
  ·
    refine V_aload_n dX8_greedyRound_99 rfl rfl ?_
    refine V_get (ci := 8) (j := 12) (C0 := RX8) (T := TX8) (N := 33) dX8_greedyRound_100 rfl g42 (by decide) (by decide) kf_X8_31 rfl ?_
    refine V_iload_n dX8_greedyRound_103 rfl rfl ?_
    refine V_iload_n dX8_greedyRound_104 rfl rfl ?_
    refine V_irem dX8_greedyRound_105 (q5 z1) ?_
    refine V_aload_n dX8_greedyRound_106 rfl rfl ?_
    refine V_get (ci := 8) (j := 0) (C0 := RX8) (T := TX8) (N := 33) dX8_greedyRound_107 rfl g42 (by decide) (by decide) kf_X8_92 rfl ?_
    refine V_imul dX8_greedyRound_110 ?_
    refine V_iload dX8_greedyRound_111 rfl ?_
    refine V_iadd dX8_greedyRound_113 ?_
    refine V_zald dX8_greedyRound_114 g50 (q6 z1) ?_
    refine V_if_eq (t := 124) dX8_greedyRound_115 (by decide) (fun z2 => ?_) (fun z2 => ?_)
    ·
      refine V_iload_n dX8_greedyRound_124 rfl rfl ?_
      refine V_iload_n dX8_greedyRound_125 rfl rfl ?_
      refine V_irem dX8_greedyRound_126 (q7 z1 z2) ?_
      refine V_aload_n dX8_greedyRound_127 rfl rfl ?_
      refine V_get (ci := 8) (j := 0) (C0 := RX8) (T := TX8) (N := 33) dX8_greedyRound_128 rfl g42 (by decide) (by decide) kf_X8_92 rfl ?_
      refine V_imul dX8_greedyRound_131 ?_
      refine V_iload dX8_greedyRound_132 rfl ?_
      refine V_iadd dX8_greedyRound_134 ?_
      refine V_istore_n dX8_greedyRound_135 rfl (Nat.le_of_ble_eq_true rfl) ?_
      refine V_aload_n dX8_greedyRound_136 rfl rfl ?_
      refine V_get (ci := 8) (j := 12) (C0 := RX8) (T := TX8) (N := 33) dX8_greedyRound_137 rfl g42 (by decide) (by decide) kf_X8_31 rfl ?_
      refine V_iload_n dX8_greedyRound_140 rfl rfl ?_
      refine V_iconst dX8_greedyRound_141 ic_1 ?_
      refine V_zast dX8_greedyRound_142 g50 (q8 z1 z2) ?_
      refine V_aload_n dX8_greedyRound_143 rfl rfl ?_
      refine V_get (ci := 8) (j := 17) (C0 := RX8) (T := TX8) (N := 33) dX8_greedyRound_144 rfl g42 (by decide) (by decide) kf_X8_41 rfl ?_
      refine V_iload_n dX8_greedyRound_147 rfl rfl ?_
      refine V_iload dX8_greedyRound_148 rfl ?_
      refine V_iast dX8_greedyRound_150 g53 (q9 z1 z2) ?_
      refine V_inc dX8_greedyRound_151 ic_1 rfl (Nat.le_of_ble_eq_true rfl) ?_
      refine V_goto (t := 78) dX8_greedyRound_154 (by decide) ?_
      exact V_sub (by exact (And.intro rfl (And.intro rfl (And.intro rfl (And.intro rfl True.intro))))) (q10 z1 z2)
    ·
      refine V_inc dX8_greedyRound_118 ic_m1 rfl (Nat.le_of_ble_eq_true rfl) ?_
      refine V_goto (t := 94) dX8_greedyRound_121 (by decide) ?_
      exact V_sub (by exact (And.intro rfl (And.intro rfl (And.intro rfl (And.intro rfl (And.intro rfl True.intro)))))) (q11 z1 z2)
