/-! trees of X8b -/
theorem tX8_round_0 {G : gx} {b : bg} {h : ah} {Q : Option Value → ah → Prop} {x1 : Int32} (q1 : V G mX8_round b 6 [some (.ref 42), some (.int x1)] [.long (2 : Int64), .long (0 : Int64), .long (x1.toInt64)] h Q) : V G mX8_round b 0 [some (.ref 42), some (.int x1)] [] h Q := by
  refine V_iload_n dX8_round_0 rfl rfl ?_
  refine V_i2l dX8_round_1 ?_
  refine V_lconst dX8_round_2 lc_0 ?_
  refine V_ldc2 dX8_round_3 kk_X8_82 ?_
  exact V_sub (by exact (And.intro rfl (And.intro rfl True.intro))) (q1)
theorem tX8_round_72 {G : gx} {b : bg} {h : ah} {Q : Option Value → ah → Prop} {x1 : Int32} {x2 : Int32} {x3 : Int32} {mk : Int32} {mn : Int32} {mall : Int32} {msum : Int32} {mexchanges : Int32} {mcycleMany : Int32} {mwhich : Int32} {mlatest : Int32} {mfirstFound : Int32} {mpartMany : Int32} {mlength : Int32} {mround : Nat → Int32} {mto : Nat → Int32} (g42 : h 42 = (8, .inl [.int mk, .int mn, .int mall, .ref 43, .ref 44, .ref 45, .ref 46, .int msum, .ref 47, .int mexchanges, .ref 48, .ref 49, .ref 50, .ref 51, .int mcycleMany, .ref 52, .int mwhich, .ref 53, .ref 54, .ref 55, .ref 56, .ref 57, .ref 58, .int mlatest, .int mfirstFound, .int mpartMany, .ref 59, .int mlength, .ref 60, .ref 61, .ref 62, .ref 63, .ref 64])) (g53 : h 53 = (0, .inr (20000, .inl mround))) (g47 : h 47 = (0, .inr (20000, .inl mto))) (q1 : (mall ≤ x3) → V G mX8_round b 117 [some (.ref 42), some (.int x1), some (.int (0 : Int32))] [] (va_up h 42 (8, .inl [.int mk, .int mn, .int mall, .ref 43, .ref 44, .ref 45, .ref 46, .int msum, .ref 47, .int mexchanges, .ref 48, .ref 49, .ref 50, .ref 51, .int mcycleMany, .ref 52, .int x1, .ref 53, .ref 54, .ref 55, .ref 56, .ref 57, .ref 58, .int mlatest, .int mfirstFound, .int mpartMany, .ref 59, .int mlength, .ref 60, .ref 61, .ref 62, .ref 63, .ref 64])) Q) (q2 : (¬ mall ≤ x3) → ¬ mk = 0) (q3 : (¬ mall ≤ x3) → ¬ (mall / mk) = 0) (q4 : (¬ mall ≤ x3) → vp_in x3 20000) (q5 : (¬ mall ≤ x3) → vp_in x2 20000) (q6 : (¬ mall ≤ x3) → V G mX8_round b 72 [some (.ref 42), some (.int x1), some (.int (mto x2.toNatClampNeg)), some (.int (x3 + (1 : Int32)))] [] (va_up h 53 (0, .inr (20000, .inl (upd mround x3.toNatClampNeg (x2 / (mall / mk)))))) Q) : V G mX8_round b 72 [some (.ref 42), some (.int x1), some (.int x2), some (.int x3)] [] h Q := by
  refine V_iload_n dX8_round_72 rfl rfl ?_
  refine V_aload_n dX8_round_73 rfl rfl ?_
  refine V_get (ci := 8) (j := 2) (C0 := RX8) (T := TX8) (N := 33) dX8_round_74 rfl g42 (by decide) (by decide) kf_X8_99 rfl ?_
  refine V_icmp_ge (t := 110) dX8_round_77 (by decide) (fun z1 => ?_) (fun z1 => ?_)
  ·
    refine V_aload_n dX8_round_110 rfl rfl ?_
    refine V_iload_n dX8_round_111 rfl rfl ?_
    refine V_put (ci := 8) (j := 16) (C0 := RX8) (T := TX8) (N := 33) (ty := .int) dX8_round_112 rfl g42 (by decide) (by decide) kf_X8_112 rfl (by decide +kernel) rfl rfl (Nat.le_of_ble_eq_true rfl) ?_
    refine V_iconst dX8_round_115 ic_0 ?_
    refine V_istore_n dX8_round_116 rfl (Nat.le_of_ble_eq_true rfl) ?_
    exact V_sub (by exact (And.intro rfl (And.intro rfl (And.intro rfl True.intro)))) (q1 z1)
  ·
    refine V_aload_n dX8_round_80 rfl rfl ?_
    refine V_get (ci := 8) (j := 17) (C0 := RX8) (T := TX8) (N := 33) dX8_round_81 rfl g42 (by decide) (by decide) kf_X8_41 rfl ?_
    refine V_iload_n dX8_round_84 rfl rfl ?_
    refine V_iload_n dX8_round_85 rfl rfl ?_
    refine V_aload_n dX8_round_86 rfl rfl ?_
    refine V_get (ci := 8) (j := 2) (C0 := RX8) (T := TX8) (N := 33) dX8_round_87 rfl g42 (by decide) (by decide) kf_X8_99 rfl ?_
    refine V_aload_n dX8_round_90 rfl rfl ?_
    refine V_get (ci := 8) (j := 0) (C0 := RX8) (T := TX8) (N := 33) dX8_round_91 rfl g42 (by decide) (by decide) kf_X8_92 rfl ?_
    refine V_idiv dX8_round_94 (q2 z1) ?_
    refine V_idiv dX8_round_95 (q3 z1) ?_
    refine V_iast dX8_round_96 g53 (q4 z1) ?_
    refine V_aload_n dX8_round_97 rfl rfl ?_
    refine V_get (ci := 8) (j := 8) (C0 := RX8) (T := TX8) (N := 33) dX8_round_98 rfl g42 (by decide) (by decide) kf_X8_22 rfl ?_
    refine V_iload_n dX8_round_101 rfl rfl ?_
    refine V_iald dX8_round_102 g47 (q5 z1) ?_
    refine V_istore_n dX8_round_103 rfl (Nat.le_of_ble_eq_true rfl) ?_
    refine V_inc dX8_round_104 ic_1 rfl (Nat.le_of_ble_eq_true rfl) ?_
    refine V_goto (t := 72) dX8_round_107 (by decide) ?_
    exact V_sub (by exact (And.intro rfl (And.intro rfl (And.intro rfl (And.intro rfl True.intro))))) (q6 z1)
theorem tX8_round_117 {G : gx} {b : bg} {h : ah} {Q : Option Value → ah → Prop} {x1 : Int32} {x2 : Int32} {mk : Int32} {mn : Int32} {mall : Int32} {msum : Int32} {mexchanges : Int32} {mcycleMany : Int32} {mwhich : Int32} {mlatest : Int32} {mfirstFound : Int32} {mpartMany : Int32} {mlength : Int32} (g42 : h 42 = (8, .inl [.int mk, .int mn, .int mall, .ref 43, .ref 44, .ref 45, .ref 46, .int msum, .ref 47, .int mexchanges, .ref 48, .ref 49, .ref 50, .ref 51, .int mcycleMany, .ref 52, .int mwhich, .ref 53, .ref 54, .ref 55, .ref 56, .ref 57, .ref 58, .int mlatest, .int mfirstFound, .int mpartMany, .ref 59, .int mlength, .ref 60, .ref 61, .ref 62, .ref 63, .ref 64])) (q1 : (mall ≤ x2) → Q (some (.int mall)) h) (q2 : (¬ mall ≤ x2) → V G mX8_round b 130 [some (.ref 42), some (.int x1), some (.int x2), some (.int (0 : Int32)), some (.int (0 : Int32))] [] h Q) : V G mX8_round b 117 [some (.ref 42), some (.int x1), some (.int x2)] [] h Q := by
  refine V_iload_n dX8_round_117 rfl rfl ?_
  refine V_aload_n dX8_round_118 rfl rfl ?_
  refine V_get (ci := 8) (j := 2) (C0 := RX8) (T := TX8) (N := 33) dX8_round_119 rfl g42 (by decide) (by decide) kf_X8_99 rfl ?_
  refine V_icmp_ge (t := 180) dX8_round_122 (by decide) (fun z1 => ?_) (fun z1 => ?_)
  ·
    refine V_aload_n dX8_round_180 rfl rfl ?_
    refine V_get (ci := 8) (j := 2) (C0 := RX8) (T := TX8) (N := 33) dX8_round_181 rfl g42 (by decide) (by decide) kf_X8_99 rfl ?_
    exact V_iret dX8_round_184 rfl (q1 z1)
  ·
    refine V_iconst dX8_round_125 ic_0 ?_
    refine V_istore_n dX8_round_126 rfl (Nat.le_of_ble_eq_true rfl) ?_
    refine V_iconst dX8_round_127 ic_0 ?_
    refine V_istore dX8_round_128 (Nat.le_of_ble_eq_true rfl) ?_
    exact V_sub (by exact (And.intro rfl (And.intro rfl (And.intro rfl (And.intro rfl (And.intro rfl True.intro)))))) (q2 z1)
theorem tX8_round_130 {G : gx} {b : bg} {h : ah} {Q : Option Value → ah → Prop} {x1 : Int32} {x2 : Int32} {x3 : Int32} {x4 : Int32} {mk : Int32} {mn : Int32} {mall : Int32} {msum : Int32} {mexchanges : Int32} {mcycleMany : Int32} {mwhich : Int32} {mlatest : Int32} {mfirstFound : Int32} {mpartMany : Int32} {mlength : Int32} {mplaceOf : Nat → Int32} {mround : Nat → Int32} (g42 : h 42 = (8, .inl [.int mk, .int mn, .int mall, .ref 43, .ref 44, .ref 45, .ref 46, .int msum, .ref 47, .int mexchanges, .ref 48, .ref 49, .ref 50, .ref 51, .int mcycleMany, .ref 52, .int mwhich, .ref 53, .ref 54, .ref 55, .ref 56, .ref 57, .ref 58, .int mlatest, .int mfirstFound, .int mpartMany, .ref 59, .int mlength, .ref 60, .ref 61, .ref 62, .ref 63, .ref 64])) (g54 : h 54 = (0, .inr (20000, .inl mplaceOf))) (g53 : h 53 = (0, .inr (20000, .inl mround))) (q1 : (mn ≤ x4) → vp_in x3 20000) (q2 : (mn ≤ x4) → V G mX8_round b 117 [some (.ref 42), some (.int x1), some (.int (x2 + (1 : Int32)))] [] (va_up h 54 (0, .inr (20000, .inl (upd mplaceOf x3.toNatClampNeg x2)))) Q) (q3 : (¬ mn ≤ x4) → ¬ mall = 0) (q4 : (¬ mn ≤ x4) → vp_in ((x2 + x4) - (x2 + x4) / mall * mall) 20000) (q5 : (¬ mn ≤ x4) → V G mX8_round b 130 [some (.ref 42), some (.int x1), some (.int x2), some (.int ((x3 * mk) + (mround ((x2 + x4) - (x2 + x4) / mall * mall).toNatClampNeg))), some (.int (x4 + (1 : Int32)))] [] h Q) : V G mX8_round b 130 [some (.ref 42), some (.int x1), some (.int x2), some (.int x3), some (.int x4)] [] h Q := by
  refine V_iload dX8_round_130 rfl ?_
  refine V_aload_n dX8_round_132 rfl rfl ?_
  refine V_get (ci := 8) (j := 1) (C0 := RX8) (T := TX8) (N := 33) dX8_round_133 rfl g42 (by decide) (by decide) kf_X8_96 rfl ?_
  refine V_icmp_ge (t := 167) dX8_round_136 (by decide) (fun z1 => ?_) (fun z1 => ?_)
  ·
    refine V_aload_n dX8_round_167 rfl rfl ?_
    refine V_get (ci := 8) (j := 18) (C0 := RX8) (T := TX8) (N := 33) dX8_round_168 rfl g42 (by decide) (by decide) kf_X8_44 rfl ?_
    refine V_iload_n dX8_round_171 rfl rfl ?_
    refine V_iload_n dX8_round_172 rfl rfl ?_
    refine V_iast dX8_round_173 g54 (q1 z1) ?_
    refine V_inc dX8_round_174 ic_1 rfl (Nat.le_of_ble_eq_true rfl) ?_
    refine V_goto (t := 117) dX8_round_177 (by decide) ?_
    exact V_sub (by exact (And.intro rfl (And.intro rfl (And.intro rfl True.intro)))) (q2 z1)
  ·
    refine V_iload_n dX8_round_139 rfl rfl ?_
    refine V_aload_n dX8_round_140 rfl rfl ?_
    refine V_get (ci := 8) (j := 0) (C0 := RX8) (T := TX8) (N := 33) dX8_round_141 rfl g42 (by decide) (by decide) kf_X8_92 rfl ?_
    refine V_imul dX8_round_144 ?_
    refine V_aload_n dX8_round_145 rfl rfl ?_
    refine V_get (ci := 8) (j := 17) (C0 := RX8) (T := TX8) (N := 33) dX8_round_146 rfl g42 (by decide) (by decide) kf_X8_41 rfl ?_
    refine V_iload_n dX8_round_149 rfl rfl ?_
    refine V_iload dX8_round_150 rfl ?_
    refine V_iadd dX8_round_152 ?_
    refine V_aload_n dX8_round_153 rfl rfl ?_
    refine V_get (ci := 8) (j := 2) (C0 := RX8) (T := TX8) (N := 33) dX8_round_154 rfl g42 (by decide) (by decide) kf_X8_99 rfl ?_
    refine V_irem dX8_round_157 (q3 z1) ?_
    refine V_iald dX8_round_158 g53 (q4 z1) ?_
    refine V_iadd dX8_round_159 ?_
    refine V_istore_n dX8_round_160 rfl (Nat.le_of_ble_eq_true rfl) ?_
    refine V_inc dX8_round_161 ic_1 rfl (Nat.le_of_ble_eq_true rfl) ?_
    refine V_goto (t := 130) dX8_round_164 (by decide) ?_
    exact V_sub (by exact (And.intro rfl (And.intro rfl (And.intro rfl (And.intro rfl (And.intro rfl True.intro)))))) (q5 z1)
theorem tX8_round_9 {G : gx} {b : bg} {h : ah} {Q : Option Value → ah → Prop} {x1 : Int32} {s0 : Int32} (q1 : (¬ s0 = (0 : Int32)) → (¬ x1 = (2 : Int32)) → (¬ x1 = (0 : Int32)) → (¬ x1 = (1 : Int32)) → V G mX8_round b 72 [some (.ref 42), some (.int x1), some (.int (0 : Int32)), some (.int (0 : Int32))] [] h Q) (q2 : (¬ s0 = (0 : Int32)) → (¬ x1 = (2 : Int32)) → (¬ x1 = (0 : Int32)) → (x1 = (1 : Int32)) → V G mX8_round b 62 [some (.ref 42), some (.int x1)] [.ref 42] h Q) (q3 : (¬ s0 = (0 : Int32)) → (¬ x1 = (2 : Int32)) → (x1 = (0 : Int32)) → V G mX8_round b 50 [some (.ref 42), some (.int x1)] [.ref 42] h Q) (q4 : (¬ s0 = (0 : Int32)) → (x1 = (2 : Int32)) → V G mX8_round b 21 [some (.ref 42), some (.int x1)] [.ref 42] h Q) (q5 : (s0 = (0 : Int32)) → Q (some (.int (-2 : Int32))) h) : V G mX8_round b 9 [some (.ref 42), some (.int x1)] [.int s0] h Q := by
  refine V_if_ne (t := 15) dX8_round_9 (by decide) (fun z1 => ?_) (fun z1 => ?_)
  ·
    refine V_iload_n dX8_round_15 rfl rfl ?_
    refine V_iconst dX8_round_16 ic_2 ?_
    refine V_icmp_ne (t := 45) dX8_round_17 (by decide) (fun z2 => ?_) (fun z2 => ?_)
    ·
      refine V_iload_n dX8_round_45 rfl rfl ?_
      refine V_if_ne (t := 56) dX8_round_46 (by decide) (fun z3 => ?_) (fun z3 => ?_)
      ·
        refine V_iload_n dX8_round_56 rfl rfl ?_
        refine V_iconst dX8_round_57 ic_1 ?_
        refine V_icmp_ne (t := 68) dX8_round_58 (by decide) (fun z4 => ?_) (fun z4 => ?_)
        ·
          refine V_iconst dX8_round_68 ic_0 ?_
          refine V_istore_n dX8_round_69 rfl (Nat.le_of_ble_eq_true rfl) ?_
          refine V_iconst dX8_round_70 ic_0 ?_
          refine V_istore_n dX8_round_71 rfl (Nat.le_of_ble_eq_true rfl) ?_
          exact V_sub (by exact (And.intro rfl (And.intro rfl (And.intro rfl (And.intro rfl True.intro))))) (q1 z1 z2 z3 z4)
        ·
          refine V_aload_n dX8_round_61 rfl rfl ?_
          exact V_sub (by exact (And.intro rfl (And.intro rfl True.intro))) (q2 z1 z2 z3 z4)
      ·
        refine V_aload_n dX8_round_49 rfl rfl ?_
        exact V_sub (by exact (And.intro rfl (And.intro rfl True.intro))) (q3 z1 z2 z3)
    ·
      refine V_aload_n dX8_round_20 rfl rfl ?_
      exact V_sub (by exact (And.intro rfl (And.intro rfl True.intro))) (q4 z1 z2)
  ·
    refine V_bipush dX8_round_12 bp_m2 ?_
    exact V_iret dX8_round_14 rfl (q5 z1)
theorem tX8_round_24 {G : gx} {b : bg} {h : ah} {Q : Option Value → ah → Prop} {x1 : Int32} {s0 : Int32} (q1 : (¬ s0 = (0 : Int32)) → V G mX8_round b 31 [some (.ref 42), some (.int x1)] [.ref 42] h Q) (q2 : (s0 = (0 : Int32)) → Q (some (.int (-3 : Int32))) h) : V G mX8_round b 24 [some (.ref 42), some (.int x1)] [.int s0] h Q := by
  refine V_if_ne (t := 30) dX8_round_24 (by decide) (fun z1 => ?_) (fun z1 => ?_)
  ·
    refine V_aload_n dX8_round_30 rfl rfl ?_
    exact V_sub (by exact (And.intro rfl (And.intro rfl True.intro))) (q1 z1)
  ·
    refine V_bipush dX8_round_27 bp_m3 ?_
    exact V_iret dX8_round_29 rfl (q2 z1)
theorem tX8_round_34 {G : gx} {b : bg} {h : ah} {Q : Option Value → ah → Prop} {x1 : Int32} {mk : Int32} {mn : Int32} {mall : Int32} {msum : Int32} {mexchanges : Int32} {mcycleMany : Int32} {mwhich : Int32} {mlatest : Int32} {mfirstFound : Int32} {mpartMany : Int32} {mlength : Int32} (g42 : h 42 = (8, .inl [.int mk, .int mn, .int mall, .ref 43, .ref 44, .ref 45, .ref 46, .int msum, .ref 47, .int mexchanges, .ref 48, .ref 49, .ref 50, .ref 51, .int mcycleMany, .ref 52, .int mwhich, .ref 53, .ref 54, .ref 55, .ref 56, .ref 57, .ref 58, .int mlatest, .int mfirstFound, .int mpartMany, .ref 59, .int mlength, .ref 60, .ref 61, .ref 62, .ref 63, .ref 64])) (q1 : (mcycleMany ≤ (1 : Int32)) → (¬ x1 = (0 : Int32)) → (¬ x1 = (1 : Int32)) → V G mX8_round b 72 [some (.ref 42), some (.int x1), some (.int (0 : Int32)), some (.int (0 : Int32))] [] h Q) (q2 : (mcycleMany ≤ (1 : Int32)) → (¬ x1 = (0 : Int32)) → (x1 = (1 : Int32)) → V G mX8_round b 62 [some (.ref 42), some (.int x1)] [.ref 42] h Q) (q3 : (mcycleMany ≤ (1 : Int32)) → (x1 = (0 : Int32)) → V G mX8_round b 50 [some (.ref 42), some (.int x1)] [.ref 42] h Q) (q4 : (¬ mcycleMany ≤ (1 : Int32)) → Q (some (.int (-3 : Int32))) h) : V G mX8_round b 34 [some (.ref 42), some (.int x1)] [] h Q := by
  refine V_aload_n dX8_round_34 rfl rfl ?_
  refine V_get (ci := 8) (j := 14) (C0 := RX8) (T := TX8) (N := 33) dX8_round_35 rfl g42 (by decide) (by decide) kf_X8_140 rfl ?_
  refine V_iconst dX8_round_38 ic_1 ?_
  refine V_icmp_le (t := 45) dX8_round_39 (by decide) (fun z1 => ?_) (fun z1 => ?_)
  ·
    refine V_iload_n dX8_round_45 rfl rfl ?_
    refine V_if_ne (t := 56) dX8_round_46 (by decide) (fun z2 => ?_) (fun z2 => ?_)
    ·
      refine V_iload_n dX8_round_56 rfl rfl ?_
      refine V_iconst dX8_round_57 ic_1 ?_
      refine V_icmp_ne (t := 68) dX8_round_58 (by decide) (fun z3 => ?_) (fun z3 => ?_)
      ·
        refine V_iconst dX8_round_68 ic_0 ?_
        refine V_istore_n dX8_round_69 rfl (Nat.le_of_ble_eq_true rfl) ?_
        refine V_iconst dX8_round_70 ic_0 ?_
        refine V_istore_n dX8_round_71 rfl (Nat.le_of_ble_eq_true rfl) ?_
        exact V_sub (by exact (And.intro rfl (And.intro rfl (And.intro rfl (And.intro rfl True.intro))))) (q1 z1 z2 z3)
      ·
        refine V_aload_n dX8_round_61 rfl rfl ?_
        exact V_sub (by exact (And.intro rfl (And.intro rfl True.intro))) (q2 z1 z2 z3)
    ·
      refine V_aload_n dX8_round_49 rfl rfl ?_
      exact V_sub (by exact (And.intro rfl (And.intro rfl True.intro))) (q3 z1 z2)
  ·
    refine V_bipush dX8_round_42 bp_m3 ?_
    exact V_iret dX8_round_44 rfl (q4 z1)
theorem tX8_round_53 {G : gx} {b : bg} {h : ah} {Q : Option Value → ah → Prop} {x1 : Int32} {mk : Int32} {mn : Int32} {mall : Int32} {msum : Int32} {mexchanges : Int32} {mcycleMany : Int32} {mwhich : Int32} {mlatest : Int32} {mfirstFound : Int32} {mpartMany : Int32} {mlength : Int32} (g42 : h 42 = (8, .inl [.int mk, .int mn, .int mall, .ref 43, .ref 44, .ref 45, .ref 46, .int msum, .ref 47, .int mexchanges, .ref 48, .ref 49, .ref 50, .ref 51, .int mcycleMany, .ref 52, .int mwhich, .ref 53, .ref 54, .ref 55, .ref 56, .ref 57, .ref 58, .int mlatest, .int mfirstFound, .int mpartMany, .ref 59, .int mlength, .ref 60, .ref 61, .ref 62, .ref 63, .ref 64])) (q1 : V G mX8_round b 117 [some (.ref 42), some (.int x1), some (.int (0 : Int32))] [] (va_up h 42 (8, .inl [.int mk, .int mn, .int mall, .ref 43, .ref 44, .ref 45, .ref 46, .int msum, .ref 47, .int mexchanges, .ref 48, .ref 49, .ref 50, .ref 51, .int mcycleMany, .ref 52, .int x1, .ref 53, .ref 54, .ref 55, .ref 56, .ref 57, .ref 58, .int mlatest, .int mfirstFound, .int mpartMany, .ref 59, .int mlength, .ref 60, .ref 61, .ref 62, .ref 63, .ref 64])) Q) : V G mX8_round b 53 [some (.ref 42), some (.int x1)] [] h Q := by
  refine V_goto (t := 110) dX8_round_53 (by decide) ?_
  refine V_aload_n dX8_round_110 rfl rfl ?_
  refine V_iload_n dX8_round_111 rfl rfl ?_
  refine V_put (ci := 8) (j := 16) (C0 := RX8) (T := TX8) (N := 33) (ty := .int) dX8_round_112 rfl g42 (by decide) (by decide) kf_X8_112 rfl (by decide +kernel) rfl rfl (Nat.le_of_ble_eq_true rfl) ?_
  refine V_iconst dX8_round_115 ic_0 ?_
  refine V_istore_n dX8_round_116 rfl (Nat.le_of_ble_eq_true rfl) ?_
  exact V_sub (by exact (And.intro rfl (And.intro rfl (And.intro rfl True.intro)))) (q1)
theorem tX8_round_65 {G : gx} {b : bg} {h : ah} {Q : Option Value → ah → Prop} {x1 : Int32} {mk : Int32} {mn : Int32} {mall : Int32} {msum : Int32} {mexchanges : Int32} {mcycleMany : Int32} {mwhich : Int32} {mlatest : Int32} {mfirstFound : Int32} {mpartMany : Int32} {mlength : Int32} (g42 : h 42 = (8, .inl [.int mk, .int mn, .int mall, .ref 43, .ref 44, .ref 45, .ref 46, .int msum, .ref 47, .int mexchanges, .ref 48, .ref 49, .ref 50, .ref 51, .int mcycleMany, .ref 52, .int mwhich, .ref 53, .ref 54, .ref 55, .ref 56, .ref 57, .ref 58, .int mlatest, .int mfirstFound, .int mpartMany, .ref 59, .int mlength, .ref 60, .ref 61, .ref 62, .ref 63, .ref 64])) (q1 : V G mX8_round b 117 [some (.ref 42), some (.int x1), some (.int (0 : Int32))] [] (va_up h 42 (8, .inl [.int mk, .int mn, .int mall, .ref 43, .ref 44, .ref 45, .ref 46, .int msum, .ref 47, .int mexchanges, .ref 48, .ref 49, .ref 50, .ref 51, .int mcycleMany, .ref 52, .int x1, .ref 53, .ref 54, .ref 55, .ref 56, .ref 57, .ref 58, .int mlatest, .int mfirstFound, .int mpartMany, .ref 59, .int mlength, .ref 60, .ref 61, .ref 62, .ref 63, .ref 64])) Q) : V G mX8_round b 65 [some (.ref 42), some (.int x1)] [] h Q := by
  refine V_goto (t := 110) dX8_round_65 (by decide) ?_
  refine V_aload_n dX8_round_110 rfl rfl ?_
  refine V_iload_n dX8_round_111 rfl rfl ?_
  refine V_put (ci := 8) (j := 16) (C0 := RX8) (T := TX8) (N := 33) (ty := .int) dX8_round_112 rfl g42 (by decide) (by decide) kf_X8_112 rfl (by decide +kernel) rfl rfl (Nat.le_of_ble_eq_true rfl) ?_
  refine V_iconst dX8_round_115 ic_0 ?_
  refine V_istore_n dX8_round_116 rfl (Nat.le_of_ble_eq_true rfl) ?_
  exact V_sub (by exact (And.intro rfl (And.intro rfl (And.intro rfl True.intro)))) (q1)
theorem cX8_round_6 {G : gx} {d mc ms cc zz d2 mc2 ms2 : Nat} {L : List (Option Value)} {S : List Value} {h : ah} {Q Q2 : Option Value → ah → Prop} {a0 a1 a2 : Value} (hM : Ct G mX8_in d2 mc2 ms2 [a0, a1, a2] h Q2) (hdd : d2 < d ∧ d ≤ 9) (hrm : (S.map fun v => v.category).sum ≤ 8) (hf : cc + mc2 ≤ mc ∧ zz + ms2 ≤ ms) (kk : ∀ r h2, Q2 r h2 → V G mX8_round (d, mc, ms, cc + mc2, zz + ms2) 9 L (r.toList ++ S) h2 Q) : V G mX8_round (d, mc, ms, cc, zz) 6 L (a2 :: a1 :: a0 :: S) h Q := V_callS hM dX8_round_6 ⟨km_X8_86, kt_X8_in⟩ cw_X8_in hdd rfl rfl hrm hf kk
theorem cX8_round_21 {G : gx} {d mc ms cc zz d2 mc2 ms2 : Nat} {L : List (Option Value)} {S : List Value} {h : ah} {Q Q2 : Option Value → ah → Prop} {k : Nat} {fs : List Value} (hM : Ct G mX8_isRight d2 mc2 ms2 (.ref (k + 2) :: []) h Q2) (hc : h (k + 2) = (8, .inl fs)) (hdd : d2 < d ∧ d ≤ 9) (hrm : (S.map fun v => v.category).sum ≤ 8) (hf : cc + mc2 ≤ mc ∧ zz + ms2 ≤ ms) (kk : ∀ r h2, Q2 r h2 → V G mX8_round (d, mc, ms, cc + mc2, zz + ms2) 24 L (r.toList ++ S) h2 Q) : V G mX8_round (d, mc, ms, cc, zz) 21 L (.ref (k + 2) :: S) h Q := V_callV (ci := 8) (T := TX8) (N := 33) hM dX8_round_21 ⟨km_X8_136, ki_X8_isRight, ks_X8_isRight⟩ cw_X8_isRight rfl hc (by decide) hdd rfl rfl hrm hf kk
theorem cX8_round_31 {G : gx} {d mc ms cc zz d2 mc2 ms2 : Nat} {L : List (Option Value)} {S : List Value} {h : ah} {Q Q2 : Option Value → ah → Prop} {k : Nat} {fs : List Value} (hM : Ct G mX8_findCycles d2 mc2 ms2 (.ref (k + 2) :: []) h Q2) (hc : h (k + 2) = (8, .inl fs)) (hdd : d2 < d ∧ d ≤ 9) (hrm : (S.map fun v => v.category).sum ≤ 8) (hf : cc + mc2 ≤ mc ∧ zz + ms2 ≤ ms) (kk : ∀ r h2, Q2 r h2 → V G mX8_round (d, mc, ms, cc + mc2, zz + ms2) 34 L (r.toList ++ S) h2 Q) : V G mX8_round (d, mc, ms, cc, zz) 31 L (.ref (k + 2) :: S) h Q := V_callV (ci := 8) (T := TX8) (N := 33) hM dX8_round_31 ⟨km_X8_147, ki_X8_findCycles, ks_X8_findCycles⟩ cw_X8_findCycles rfl hc (by decide) hdd rfl rfl hrm hf kk
theorem cX8_round_50 {G : gx} {d mc ms cc zz d2 mc2 ms2 : Nat} {L : List (Option Value)} {S : List Value} {h : ah} {Q Q2 : Option Value → ah → Prop} {k : Nat} {fs : List Value} (hM : Ct G mX8_leastRound d2 mc2 ms2 (.ref (k + 2) :: []) h Q2) (hc : h (k + 2) = (8, .inl fs)) (hdd : d2 < d ∧ d ≤ 9) (hrm : (S.map fun v => v.category).sum ≤ 8) (hf : cc + mc2 ≤ mc ∧ zz + ms2 ≤ ms) (kk : ∀ r h2, Q2 r h2 → V G mX8_round (d, mc, ms, cc + mc2, zz + ms2) 53 L (r.toList ++ S) h2 Q) : V G mX8_round (d, mc, ms, cc, zz) 50 L (.ref (k + 2) :: S) h Q := V_callV (ci := 8) (T := TX8) (N := 33) hM dX8_round_50 ⟨km_X8_157, ki_X8_leastRound, ks_X8_leastRound⟩ cw_X8_leastRound rfl hc (by decide) hdd rfl rfl hrm hf kk
theorem cX8_round_62 {G : gx} {d mc ms cc zz d2 mc2 ms2 : Nat} {L : List (Option Value)} {S : List Value} {h : ah} {Q Q2 : Option Value → ah → Prop} {k : Nat} {fs : List Value} (hM : Ct G mX8_greedyRound d2 mc2 ms2 (.ref (k + 2) :: []) h Q2) (hc : h (k + 2) = (8, .inl fs)) (hdd : d2 < d ∧ d ≤ 9) (hrm : (S.map fun v => v.category).sum ≤ 8) (hf : cc + mc2 ≤ mc ∧ zz + ms2 ≤ ms) (kk : ∀ r h2, Q2 r h2 → V G mX8_round (d, mc, ms, cc + mc2, zz + ms2) 65 L (r.toList ++ S) h2 Q) : V G mX8_round (d, mc, ms, cc, zz) 62 L (.ref (k + 2) :: S) h Q := V_callV (ci := 8) (T := TX8) (N := 33) hM dX8_round_62 ⟨km_X8_160, ki_X8_greedyRound, ks_X8_greedyRound⟩ cw_X8_greedyRound rfl hc (by decide) hdd rfl rfl hrm hf kk
theorem tX8_letter_0 {G : gx} {b : bg} {h : ah} {Q : Option Value → ah → Prop} {x1 : Int32} {mk : Int32} {mn : Int32} {mall : Int32} {msum : Int32} {mexchanges : Int32} {mcycleMany : Int32} {mwhich : Int32} {mlatest : Int32} {mfirstFound : Int32} {mpartMany : Int32} {mlength : Int32} (g42 : h 42 = (8, .inl [.int mk, .int mn, .int mall, .ref 43, .ref 44, .ref 45, .ref 46, .int msum, .ref 47, .int mexchanges, .ref 48, .ref 49, .ref 50, .ref 51, .int mcycleMany, .ref 52, .int mwhich, .ref 53, .ref 54, .ref 55, .ref 56, .ref 57, .ref 58, .int mlatest, .int mfirstFound, .int mpartMany, .ref 59, .int mlength, .ref 60, .ref 61, .ref 62, .ref 63, .ref 64])) (q1 : (mwhich = (-1 : Int32)) → Q (some (.int (-2 : Int32))) h) (q2 : (¬ mwhich = (-1 : Int32)) → V G mX8_letter b 18 [some (.ref 42), some (.int x1)] [.long ((mall - (1 : Int32)).toInt64), .long (0 : Int64), .long (x1.toInt64)] h Q) : V G mX8_letter b 0 [some (.ref 42), some (.int x1)] [] h Q := by
  refine V_aload_n dX8_letter_0 rfl rfl ?_
  refine V_get (ci := 8) (j := 16) (C0 := RX8) (T := TX8) (N := 33) dX8_letter_1 rfl g42 (by decide) (by decide) kf_X8_112 rfl ?_
  refine V_iconst dX8_letter_4 ic_m1 ?_
  refine V_icmp_eq (t := 33) dX8_letter_5 (by decide) (fun z1 => ?_) (fun z1 => ?_)
  ·
    refine V_bipush dX8_letter_33 bp_m2 ?_
    exact V_iret dX8_letter_35 rfl (q1 z1)
  ·
    refine V_iload_n dX8_letter_8 rfl rfl ?_
    refine V_i2l dX8_letter_9 ?_
    refine V_lconst dX8_letter_10 lc_0 ?_
    refine V_aload_n dX8_letter_11 rfl rfl ?_
    refine V_get (ci := 8) (j := 2) (C0 := RX8) (T := TX8) (N := 33) dX8_letter_12 rfl g42 (by decide) (by decide) kf_X8_99 rfl ?_
    refine V_iconst dX8_letter_15 ic_1 ?_
    refine V_isub dX8_letter_16 ?_
    refine V_i2l dX8_letter_17 ?_
    exact V_sub (by exact (And.intro rfl (And.intro rfl True.intro))) (q2 z1)
theorem tX8_letter_21 {G : gx} {b : bg} {h : ah} {Q : Option Value → ah → Prop} {x1 : Int32} {s0 : Int32} {mk : Int32} {mn : Int32} {mall : Int32} {msum : Int32} {mexchanges : Int32} {mcycleMany : Int32} {mwhich : Int32} {mlatest : Int32} {mfirstFound : Int32} {mpartMany : Int32} {mlength : Int32} {mround : Nat → Int32} (g42 : h 42 = (8, .inl [.int mk, .int mn, .int mall, .ref 43, .ref 44, .ref 45, .ref 46, .int msum, .ref 47, .int mexchanges, .ref 48, .ref 49, .ref 50, .ref 51, .int mcycleMany, .ref 52, .int mwhich, .ref 53, .ref 54, .ref 55, .ref 56, .ref 57, .ref 58, .int mlatest, .int mfirstFound, .int mpartMany, .ref 59, .int mlength, .ref 60, .ref 61, .ref 62, .ref 63, .ref 64])) (g53 : h 53 = (0, .inr (20000, .inl mround))) (q1 : (s0 = (0 : Int32)) → Q (some (.int (-2 : Int32))) h) (q2 : (¬ s0 = (0 : Int32)) → vp_in x1 20000) (q3 : (¬ s0 = (0 : Int32)) → Q (some (.int (mround x1.toNatClampNeg))) h) : V G mX8_letter b 21 [some (.ref 42), some (.int x1)] [.int s0] h Q := by
  refine V_if_eq (t := 33) dX8_letter_21 (by decide) (fun z1 => ?_) (fun z1 => ?_)
  ·
    refine V_bipush dX8_letter_33 bp_m2 ?_
    exact V_iret dX8_letter_35 rfl (q1 z1)
  ·
    refine V_aload_n dX8_letter_24 rfl rfl ?_
    refine V_get (ci := 8) (j := 17) (C0 := RX8) (T := TX8) (N := 33) dX8_letter_25 rfl g42 (by decide) (by decide) kf_X8_41 rfl ?_
    refine V_iload_n dX8_letter_28 rfl rfl ?_
    refine V_iald dX8_letter_29 g53 (q2 z1) ?_
    refine V_goto (t := 35) dX8_letter_30 (by decide) ?_
    exact V_iret dX8_letter_35 rfl (q3 z1)
theorem cX8_letter_18 {G : gx} {d mc ms cc zz d2 mc2 ms2 : Nat} {L : List (Option Value)} {S : List Value} {h : ah} {Q Q2 : Option Value → ah → Prop} {a0 a1 a2 : Value} (hM : Ct G mX8_in d2 mc2 ms2 [a0, a1, a2] h Q2) (hdd : d2 < d ∧ d ≤ 9) (hrm : (S.map fun v => v.category).sum ≤ 8) (hf : cc + mc2 ≤ mc ∧ zz + ms2 ≤ ms) (kk : ∀ r h2, Q2 r h2 → V G mX8_letter (d, mc, ms, cc + mc2, zz + ms2) 21 L (r.toList ++ S) h2 Q) : V G mX8_letter (d, mc, ms, cc, zz) 18 L (a2 :: a1 :: a0 :: S) h Q := V_callS hM dX8_letter_18 ⟨km_X8_86, kt_X8_in⟩ cw_X8_in hdd rfl rfl hrm hf kk
theorem tX8_place_0 {G : gx} {b : bg} {h : ah} {Q : Option Value → ah → Prop} {x1 : Int32} (q1 : V G mX8_place b 2 [some (.ref 42), some (.int x1)] [.int x1, .ref 42] h Q) : V G mX8_place b 0 [some (.ref 42), some (.int x1)] [] h Q := by
  refine V_aload_n dX8_place_0 rfl rfl ?_
  refine V_iload_n dX8_place_1 rfl rfl ?_
  exact V_sub (by exact (And.intro rfl (And.intro rfl True.intro))) (q1)
theorem tX8_place_5 {G : gx} {b : bg} {h : ah} {Q : Option Value → ah → Prop} {x1 : Int32} {s0 : Int32} {mk : Int32} {mn : Int32} {mall : Int32} {msum : Int32} {mexchanges : Int32} {mcycleMany : Int32} {mwhich : Int32} {mlatest : Int32} {mfirstFound : Int32} {mpartMany : Int32} {mlength : Int32} {mplaceOf : Nat → Int32} (g42 : h 42 = (8, .inl [.int mk, .int mn, .int mall, .ref 43, .ref 44, .ref 45, .ref 46, .int msum, .ref 47, .int mexchanges, .ref 48, .ref 49, .ref 50, .ref 51, .int mcycleMany, .ref 52, .int mwhich, .ref 53, .ref 54, .ref 55, .ref 56, .ref 57, .ref 58, .int mlatest, .int mfirstFound, .int mpartMany, .ref 59, .int mlength, .ref 60, .ref 61, .ref 62, .ref 63, .ref 64])) (g54 : h 54 = (0, .inr (20000, .inl mplaceOf))) (q1 : (¬ s0 = (0 : Int32)) → (¬ mwhich = (-1 : Int32)) → vp_in x1 20000) (q2 : (¬ s0 = (0 : Int32)) → (¬ mwhich = (-1 : Int32)) → Q (some (.int (mplaceOf x1.toNatClampNeg))) h) (q3 : (¬ s0 = (0 : Int32)) → (mwhich = (-1 : Int32)) → Q (some (.int (-3 : Int32))) h) (q4 : (s0 = (0 : Int32)) → Q (some (.int (-2 : Int32))) h) : V G mX8_place b 5 [some (.ref 42), some (.int x1)] [.int s0] h Q := by
  refine V_if_ne (t := 11) dX8_place_5 (by decide) (fun z1 => ?_) (fun z1 => ?_)
  ·
    refine V_aload_n dX8_place_11 rfl rfl ?_
    refine V_get (ci := 8) (j := 16) (C0 := RX8) (T := TX8) (N := 33) dX8_place_12 rfl g42 (by decide) (by decide) kf_X8_112 rfl ?_
    refine V_iconst dX8_place_15 ic_m1 ?_
    refine V_icmp_ne (t := 24) dX8_place_16 (by decide) (fun z2 => ?_) (fun z2 => ?_)
    ·
      refine V_aload_n dX8_place_24 rfl rfl ?_
      refine V_get (ci := 8) (j := 18) (C0 := RX8) (T := TX8) (N := 33) dX8_place_25 rfl g42 (by decide) (by decide) kf_X8_44 rfl ?_
      refine V_iload_n dX8_place_28 rfl rfl ?_
      refine V_iald dX8_place_29 g54 (q1 z1 z2) ?_
      exact V_iret dX8_place_30 rfl (q2 z1 z2)
    ·
      refine V_bipush dX8_place_19 bp_m3 ?_
      refine V_goto (t := 30) dX8_place_21 (by decide) ?_
      exact V_iret dX8_place_30 rfl (q3 z1 z2)
  ·
    refine V_bipush dX8_place_8 bp_m2 ?_
    exact V_iret dX8_place_10 rfl (q4 z1)
theorem cX8_place_2 {G : gx} {d mc ms cc zz d2 mc2 ms2 : Nat} {L : List (Option Value)} {S : List Value} {h : ah} {Q Q2 : Option Value → ah → Prop} {k : Nat} {fs : List Value} {a0 : Value} (hM : Ct G mX8_isWord d2 mc2 ms2 (.ref (k + 2) :: [a0]) h Q2) (hc : h (k + 2) = (8, .inl fs)) (hdd : d2 < d ∧ d ≤ 9) (hrm : (S.map fun v => v.category).sum ≤ 8) (hf : cc + mc2 ≤ mc ∧ zz + ms2 ≤ ms) (kk : ∀ r h2, Q2 r h2 → V G mX8_place (d, mc, ms, cc + mc2, zz + ms2) 5 L (r.toList ++ S) h2 Q) : V G mX8_place (d, mc, ms, cc, zz) 2 L (a0 :: .ref (k + 2) :: S) h Q := V_callV (ci := 8) (T := TX8) (N := 33) hM dX8_place_2 ⟨km_X8_121, ki_X8_isWord, ks_X8_isWord⟩ cw_X8_isWord rfl hc (by decide) hdd rfl rfl hrm hf kk
theorem tX8_way_0 {G : gx} {b : bg} {h : ah} {Q : Option Value → ah → Prop} {x1 : Int32} {x2 : Int32} {mk : Int32} {mn : Int32} {mall : Int32} {msum : Int32} {mexchanges : Int32} {mcycleMany : Int32} {mwhich : Int32} {mlatest : Int32} {mfirstFound : Int32} {mpartMany : Int32} {mlength : Int32} (g42 : h 42 = (8, .inl [.int mk, .int mn, .int mall, .ref 43, .ref 44, .ref 45, .ref 46, .int msum, .ref 47, .int mexchanges, .ref 48, .ref 49, .ref 50, .ref 51, .int mcycleMany, .ref 52, .int mwhich, .ref 53, .ref 54, .ref 55, .ref 56, .ref 57, .ref 58, .int mlatest, .int mfirstFound, .int mpartMany, .ref 59, .int mlength, .ref 60, .ref 61, .ref 62, .ref 63, .ref 64])) (q1 : (mwhich = (-1 : Int32)) → Q (some (.int (-2 : Int32))) h) (q2 : (¬ mwhich = (-1 : Int32)) → V G mX8_way b 18 [some (.ref 42), some (.int x1), some (.int x2)] [.long ((mall - (1 : Int32)).toInt64), .long (0 : Int64), .long (x1.toInt64)] h Q) : V G mX8_way b 0 [some (.ref 42), some (.int x1), some (.int x2)] [] h Q := by
  refine V_aload_n dX8_way_0 rfl rfl ?_
  refine V_get (ci := 8) (j := 16) (C0 := RX8) (T := TX8) (N := 33) dX8_way_1 rfl g42 (by decide) (by decide) kf_X8_112 rfl ?_
  refine V_iconst dX8_way_4 ic_m1 ?_
  refine V_icmp_eq (t := 40) dX8_way_5 (by decide) (fun z1 => ?_) (fun z1 => ?_)
  ·
    refine V_bipush dX8_way_40 bp_m2 ?_
    exact V_iret dX8_way_42 rfl (q1 z1)
  ·
    refine V_iload_n dX8_way_8 rfl rfl ?_
    refine V_i2l dX8_way_9 ?_
    refine V_lconst dX8_way_10 lc_0 ?_
    refine V_aload_n dX8_way_11 rfl rfl ?_
    refine V_get (ci := 8) (j := 2) (C0 := RX8) (T := TX8) (N := 33) dX8_way_12 rfl g42 (by decide) (by decide) kf_X8_99 rfl ?_
    refine V_iconst dX8_way_15 ic_1 ?_
    refine V_isub dX8_way_16 ?_
    refine V_i2l dX8_way_17 ?_
    exact V_sub (by exact (And.intro rfl (And.intro rfl (And.intro rfl True.intro)))) (q2 z1)
theorem tX8_way_21 {G : gx} {b : bg} {h : ah} {Q : Option Value → ah → Prop} {x1 : Int32} {x2 : Int32} {s0 : Int32} {mk : Int32} {mn : Int32} {mall : Int32} {msum : Int32} {mexchanges : Int32} {mcycleMany : Int32} {mwhich : Int32} {mlatest : Int32} {mfirstFound : Int32} {mpartMany : Int32} {mlength : Int32} (g42 : h 42 = (8, .inl [.int mk, .int mn, .int mall, .ref 43, .ref 44, .ref 45, .ref 46, .int msum, .ref 47, .int mexchanges, .ref 48, .ref 49, .ref 50, .ref 51, .int mcycleMany, .ref 52, .int mwhich, .ref 53, .ref 54, .ref 55, .ref 56, .ref 57, .ref 58, .int mlatest, .int mfirstFound, .int mpartMany, .ref 59, .int mlength, .ref 60, .ref 61, .ref 62, .ref 63, .ref 64])) (q1 : (s0 = (0 : Int32)) → Q (some (.int (-2 : Int32))) h) (q2 : (¬ s0 = (0 : Int32)) → V G mX8_way b 34 [some (.ref 42), some (.int x1), some (.int x2)] [.long ((mall - (1 : Int32)).toInt64), .long (0 : Int64), .long (x2.toInt64)] h Q) : V G mX8_way b 21 [some (.ref 42), some (.int x1), some (.int x2)] [.int s0] h Q := by
  refine V_if_eq (t := 40) dX8_way_21 (by decide) (fun z1 => ?_) (fun z1 => ?_)
  ·
    refine V_bipush dX8_way_40 bp_m2 ?_
    exact V_iret dX8_way_42 rfl (q1 z1)
  ·
    refine V_iload_n dX8_way_24 rfl rfl ?_
    refine V_i2l dX8_way_25 ?_
    refine V_lconst dX8_way_26 lc_0 ?_
    refine V_aload_n dX8_way_27 rfl rfl ?_
    refine V_get (ci := 8) (j := 2) (C0 := RX8) (T := TX8) (N := 33) dX8_way_28 rfl g42 (by decide) (by decide) kf_X8_99 rfl ?_
    refine V_iconst dX8_way_31 ic_1 ?_
    refine V_isub dX8_way_32 ?_
    refine V_i2l dX8_way_33 ?_
    exact V_sub (by exact (And.intro rfl (And.intro rfl (And.intro rfl True.intro)))) (q2 z1)
theorem tX8_way_37 {G : gx} {b : bg} {h : ah} {Q : Option Value → ah → Prop} {x1 : Int32} {x2 : Int32} {s0 : Int32} {mk : Int32} {mn : Int32} {mall : Int32} {msum : Int32} {mexchanges : Int32} {mcycleMany : Int32} {mwhich : Int32} {mlatest : Int32} {mfirstFound : Int32} {mpartMany : Int32} {mlength : Int32} (g42 : h 42 = (8, .inl [.int mk, .int mn, .int mall, .ref 43, .ref 44, .ref 45, .ref 46, .int msum, .ref 47, .int mexchanges, .ref 48, .ref 49, .ref 50, .ref 51, .int mcycleMany, .ref 52, .int mwhich, .ref 53, .ref 54, .ref 55, .ref 56, .ref 57, .ref 58, .int mlatest, .int mfirstFound, .int mpartMany, .ref 59, .int mlength, .ref 60, .ref 61, .ref 62, .ref 63, .ref 64])) (q1 : (¬ s0 = (0 : Int32)) → (x2 < x1) → Q (some (.int ((x2 - x1) + mall))) h) (q2 : (¬ s0 = (0 : Int32)) → (¬ x2 < x1) → Q (some (.int (x2 - x1))) h) (q3 : (s0 = (0 : Int32)) → Q (some (.int (-2 : Int32))) h) : V G mX8_way b 37 [some (.ref 42), some (.int x1), some (.int x2)] [.int s0] h Q := by
  refine V_if_ne (t := 43) dX8_way_37 (by decide) (fun z1 => ?_) (fun z1 => ?_)
  ·
    refine V_iload_n dX8_way_43 rfl rfl ?_
    refine V_iload_n dX8_way_44 rfl rfl ?_
    refine V_icmp_lt (t := 54) dX8_way_45 (by decide) (fun z2 => ?_) (fun z2 => ?_)
    ·
      refine V_iload_n dX8_way_54 rfl rfl ?_
      refine V_iload_n dX8_way_55 rfl rfl ?_
      refine V_isub dX8_way_56 ?_
      refine V_aload_n dX8_way_57 rfl rfl ?_
      refine V_get (ci := 8) (j := 2) (C0 := RX8) (T := TX8) (N := 33) dX8_way_58 rfl g42 (by decide) (by decide) kf_X8_99 rfl ?_
      refine V_iadd dX8_way_61 ?_
      exact V_iret dX8_way_62 rfl (q1 z1 z2)
    ·
      refine V_iload_n dX8_way_48 rfl rfl ?_
      refine V_iload_n dX8_way_49 rfl rfl ?_
      refine V_isub dX8_way_50 ?_
      refine V_goto (t := 62) dX8_way_51 (by decide) ?_
      exact V_iret dX8_way_62 rfl (q2 z1 z2)
  ·
    refine V_bipush dX8_way_40 bp_m2 ?_
    exact V_iret dX8_way_42 rfl (q3 z1)
theorem cX8_way_18 {G : gx} {d mc ms cc zz d2 mc2 ms2 : Nat} {L : List (Option Value)} {S : List Value} {h : ah} {Q Q2 : Option Value → ah → Prop} {a0 a1 a2 : Value} (hM : Ct G mX8_in d2 mc2 ms2 [a0, a1, a2] h Q2) (hdd : d2 < d ∧ d ≤ 9) (hrm : (S.map fun v => v.category).sum ≤ 8) (hf : cc + mc2 ≤ mc ∧ zz + ms2 ≤ ms) (kk : ∀ r h2, Q2 r h2 → V G mX8_way (d, mc, ms, cc + mc2, zz + ms2) 21 L (r.toList ++ S) h2 Q) : V G mX8_way (d, mc, ms, cc, zz) 18 L (a2 :: a1 :: a0 :: S) h Q := V_callS hM dX8_way_18 ⟨km_X8_86, kt_X8_in⟩ cw_X8_in hdd rfl rfl hrm hf kk
theorem cX8_way_34 {G : gx} {d mc ms cc zz d2 mc2 ms2 : Nat} {L : List (Option Value)} {S : List Value} {h : ah} {Q Q2 : Option Value → ah → Prop} {a0 a1 a2 : Value} (hM : Ct G mX8_in d2 mc2 ms2 [a0, a1, a2] h Q2) (hdd : d2 < d ∧ d ≤ 9) (hrm : (S.map fun v => v.category).sum ≤ 8) (hf : cc + mc2 ≤ mc ∧ zz + ms2 ≤ ms) (kk : ∀ r h2, Q2 r h2 → V G mX8_way (d, mc, ms, cc + mc2, zz + ms2) 37 L (r.toList ++ S) h2 Q) : V G mX8_way (d, mc, ms, cc, zz) 34 L (a2 :: a1 :: a0 :: S) h Q := V_callS hM dX8_way_34 ⟨km_X8_86, kt_X8_in⟩ cw_X8_in hdd rfl rfl hrm hf kk
theorem tX8_met_0 {G : gx} {b : bg} {h : ah} {Q : Option Value → ah → Prop} {x1 : Int32} {mk : Int32} {mn : Int32} {mall : Int32} {msum : Int32} {mexchanges : Int32} {mcycleMany : Int32} {mwhich : Int32} {mlatest : Int32} {mfirstFound : Int32} {mpartMany : Int32} {mlength : Int32} (g42 : h 42 = (8, .inl [.int mk, .int mn, .int mall, .ref 43, .ref 44, .ref 45, .ref 46, .int msum, .ref 47, .int mexchanges, .ref 48, .ref 49, .ref 50, .ref 51, .int mcycleMany, .ref 52, .int mwhich, .ref 53, .ref 54, .ref 55, .ref 56, .ref 57, .ref 58, .int mlatest, .int mfirstFound, .int mpartMany, .ref 59, .int mlength, .ref 60, .ref 61, .ref 62, .ref 63, .ref 64])) (q1 : Q (some (.int ((-10 : Int32) - x1))) (va_up h 42 (8, .inl [.int mk, .int mn, .int mall, .ref 43, .ref 44, .ref 45, .ref 46, .int msum, .ref 47, .int mexchanges, .ref 48, .ref 49, .ref 50, .ref 51, .int mcycleMany, .ref 52, .int mwhich, .ref 53, .ref 54, .ref 55, .ref 56, .ref 57, .ref 58, .int x1, .int mfirstFound, .int mpartMany, .ref 59, .int mlength, .ref 60, .ref 61, .ref 62, .ref 63, .ref 64]))) : V G mX8_met b 0 [some (.ref 42), some (.int x1)] [] h Q := by
  refine V_aload_n dX8_met_0 rfl rfl ?_
  refine V_iload_n dX8_met_1 rfl rfl ?_
  refine V_put (ci := 8) (j := 23) (C0 := RX8) (T := TX8) (N := 33) (ty := .int) dX8_met_2 rfl g42 (by decide) (by decide) kf_X8_163 rfl (by decide +kernel) rfl rfl (Nat.le_of_ble_eq_true rfl) ?_
  refine V_bipush dX8_met_5 bp_m10 ?_
  refine V_iload_n dX8_met_7 rfl rfl ?_
  refine V_isub dX8_met_8 ?_
  exact V_iret dX8_met_9 rfl (q1)
theorem tX8_isTape_0 {G : gx} {b : bg} {h : ah} {Q : Option Value → ah → Prop} {x0 : Int32} (q1 : V G mX8_isTape b 6 [some (.int x0)] [.long (3 : Int64), .long (0 : Int64), .long (x0.toInt64)] h Q) : V G mX8_isTape b 0 [some (.int x0)] [] h Q := by
  refine V_iload_n dX8_isTape_0 rfl rfl ?_
  refine V_i2l dX8_isTape_1 ?_
  refine V_lconst dX8_isTape_2 lc_0 ?_
  refine V_ldc2 dX8_isTape_3 kk_X8_166 ?_
  exact V_sub (by exact (And.intro rfl True.intro)) (q1)
theorem tX8_isTape_9 {G : gx} {b : bg} {h : ah} {Q : Option Value → ah → Prop} {x0 : Int32} {s0 : Int32} (q1 : Q (some (.int s0)) h) (q2 : narrow .boolean (.int s0) = .int s0) : V G mX8_isTape b 9 [some (.int x0)] [.int s0] h Q := by
  exact V_zret dX8_isTape_9 rfl (q2) (q1)
theorem cX8_isTape_6 {G : gx} {d mc ms cc zz d2 mc2 ms2 : Nat} {L : List (Option Value)} {S : List Value} {h : ah} {Q Q2 : Option Value → ah → Prop} {a0 a1 a2 : Value} (hM : Ct G mX8_in d2 mc2 ms2 [a0, a1, a2] h Q2) (hdd : d2 < d ∧ d ≤ 9) (hrm : (S.map fun v => v.category).sum ≤ 8) (hf : cc + mc2 ≤ mc ∧ zz + ms2 ≤ ms) (kk : ∀ r h2, Q2 r h2 → V G mX8_isTape (d, mc, ms, cc + mc2, zz + ms2) 9 L (r.toList ++ S) h2 Q) : V G mX8_isTape (d, mc, ms, cc, zz) 6 L (a2 :: a1 :: a0 :: S) h Q := V_callS hM dX8_isTape_6 ⟨km_X8_86, kt_X8_in⟩ cw_X8_in hdd rfl rfl hrm hf kk
theorem tX8_tape_0 {G : gx} {b : bg} {h : ah} {Q : Option Value → ah → Prop} {x1 : Int32} {x2 : Int32} {x3 : Int32} (q1 : V G mX8_tape b 1 [some (.ref 42), some (.int x1), some (.int x2), some (.int x3)] [.int x1] h Q) : V G mX8_tape b 0 [some (.ref 42), some (.int x1), some (.int x2), some (.int x3)] [] h Q := by
  refine V_iload_n dX8_tape_0 rfl rfl ?_
  exact V_sub (by exact (And.intro rfl (And.intro rfl (And.intro rfl (And.intro rfl True.intro))))) (q1)
theorem tX8_tape_56 {G : gx} {b : bg} {h : ah} {Q : Option Value → ah → Prop} {x1 : Int32} {x2 : Int32} {x3 : Int32} {x4 : Int32} {mk : Int32} {mn : Int32} {mall : Int32} {msum : Int32} {mexchanges : Int32} {mcycleMany : Int32} {mwhich : Int32} {mlatest : Int32} {mfirstFound : Int32} {mpartMany : Int32} {mlength : Int32} {mitems : Nat → Int32} (g42 : h 42 = (8, .inl [.int mk, .int mn, .int mall, .ref 43, .ref 44, .ref 45, .ref 46, .int msum, .ref 47, .int mexchanges, .ref 48, .ref 49, .ref 50, .ref 51, .int mcycleMany, .ref 52, .int mwhich, .ref 53, .ref 54, .ref 55, .ref 56, .ref 57, .ref 58, .int mlatest, .int mfirstFound, .int mpartMany, .ref 59, .int mlength, .ref 60, .ref 61, .ref 62, .ref 63, .ref 64])) (g57 : h 57 = (0, .inr (800, .inl mitems))) (q1 : (x3 ≤ x4) → Q (some (.int x3)) h) (q2 : (¬ x3 ≤ x4) → vp_in (((200 : Int32) * x1) + x4) 800) (q3 : (¬ x3 ≤ x4) → V G mX8_tape b 56 [some (.ref 42), some (.int x1), some (.int x2), some (.int x3), some (.int (x4 + (1 : Int32)))] [] (va_up h 57 (0, .inr (800, .inl (upd mitems (((200 : Int32) * x1) + x4).toNatClampNeg (0 : Int32))))) Q) : V G mX8_tape b 56 [some (.ref 42), some (.int x1), some (.int x2), some (.int x3), some (.int x4)] [] h Q := by
  refine V_iload dX8_tape_56 rfl ?_
  refine V_iload_n dX8_tape_58 rfl rfl ?_
  refine V_icmp_ge (t := 82) dX8_tape_59 (by decide) (fun z1 => ?_) (fun z1 => ?_)
  ·
    refine V_iload_n dX8_tape_82 rfl rfl ?_
    exact V_iret dX8_tape_83 rfl (q1 z1)
  ·
    refine V_aload_n dX8_tape_62 rfl rfl ?_
    refine V_get (ci := 8) (j := 21) (C0 := RX8) (T := TX8) (N := 33) dX8_tape_63 rfl g42 (by decide) (by decide) kf_X8_53 rfl ?_
    refine V_sipush dX8_tape_66 sp_200 ?_
    refine V_iload_n dX8_tape_69 rfl rfl ?_
    refine V_imul dX8_tape_70 ?_
    refine V_iload dX8_tape_71 rfl ?_
    refine V_iadd dX8_tape_73 ?_
    refine V_iconst dX8_tape_74 ic_0 ?_
    refine V_iast dX8_tape_75 g57 (q2 z1) ?_
    refine V_inc dX8_tape_76 ic_1 rfl (Nat.le_of_ble_eq_true rfl) ?_
    refine V_goto (t := 56) dX8_tape_79 (by decide) ?_
    exact V_sub (by exact (And.intro rfl (And.intro rfl (And.intro rfl (And.intro rfl (And.intro rfl True.intro)))))) (q3 z1)
theorem tX8_tape_4 {G : gx} {b : bg} {h : ah} {Q : Option Value → ah → Prop} {x1 : Int32} {x2 : Int32} {x3 : Int32} {s0 : Int32} (q1 : (s0 = (0 : Int32)) → Q (some (.int (-2 : Int32))) h) (q2 : (¬ s0 = (0 : Int32)) → V G mX8_tape b 13 [some (.ref 42), some (.int x1), some (.int x2), some (.int x3)] [.long (2 : Int64), .long (0 : Int64), .long (x2.toInt64)] h Q) : V G mX8_tape b 4 [some (.ref 42), some (.int x1), some (.int x2), some (.int x3)] [.int s0] h Q := by
  refine V_if_eq (t := 26) dX8_tape_4 (by decide) (fun z1 => ?_) (fun z1 => ?_)
  ·
    refine V_bipush dX8_tape_26 bp_m2 ?_
    exact V_iret dX8_tape_28 rfl (q1 z1)
  ·
    refine V_iload_n dX8_tape_7 rfl rfl ?_
    refine V_i2l dX8_tape_8 ?_
    refine V_lconst dX8_tape_9 lc_0 ?_
    refine V_ldc2 dX8_tape_10 kk_X8_82 ?_
    exact V_sub (by exact (And.intro rfl (And.intro rfl (And.intro rfl (And.intro rfl True.intro))))) (q2 z1)
theorem tX8_tape_16 {G : gx} {b : bg} {h : ah} {Q : Option Value → ah → Prop} {x1 : Int32} {x2 : Int32} {x3 : Int32} {s0 : Int32} {mk : Int32} {mn : Int32} {mall : Int32} {msum : Int32} {mexchanges : Int32} {mcycleMany : Int32} {mwhich : Int32} {mlatest : Int32} {mfirstFound : Int32} {mpartMany : Int32} {mlength : Int32} {mforms : Nat → Int32} {msizes : Nat → Int32} (g42 : h 42 = (8, .inl [.int mk, .int mn, .int mall, .ref 43, .ref 44, .ref 45, .ref 46, .int msum, .ref 47, .int mexchanges, .ref 48, .ref 49, .ref 50, .ref 51, .int mcycleMany, .ref 52, .int mwhich, .ref 53, .ref 54, .ref 55, .ref 56, .ref 57, .ref 58, .int mlatest, .int mfirstFound, .int mpartMany, .ref 59, .int mlength, .ref 60, .ref 61, .ref 62, .ref 63, .ref 64])) (g55 : h 55 = (0, .inr (4, .inl mforms))) (g56 : h 56 = (0, .inr (4, .inl msizes))) (q1 : (s0 = (0 : Int32)) → Q (some (.int (-2 : Int32))) h) (q2 : (¬ s0 = (0 : Int32)) → (x3 ≤ (200 : Int32)) → ((0 : Int32) ≤ x3) → vp_in x1 4) (q3 : (¬ s0 = (0 : Int32)) → (x3 ≤ (200 : Int32)) → ((0 : Int32) ≤ x3) → vp_in x1 4) (q4 : (¬ s0 = (0 : Int32)) → (x3 ≤ (200 : Int32)) → ((0 : Int32) ≤ x3) → V G mX8_tape b 56 [some (.ref 42), some (.int x1), some (.int x2), some (.int x3), some (.int (0 : Int32))] [] (va_up (va_up h 55 (0, .inr (4, .inl (upd mforms x1.toNatClampNeg x2)))) 56 (0, .inr (4, .inl (upd msizes x1.toNatClampNeg x3)))) Q) (q5 : (¬ s0 = (0 : Int32)) → (x3 ≤ (200 : Int32)) → (¬ (0 : Int32) ≤ x3) → V G mX8_tape b 35 [some (.ref 42), some (.int x1), some (.int x2), some (.int x3)] [.int (5 : Int32), .ref 42] h Q) (q6 : (¬ s0 = (0 : Int32)) → (¬ x3 ≤ (200 : Int32)) → Q (some (.int (-2 : Int32))) h) : V G mX8_tape b 16 [some (.ref 42), some (.int x1), some (.int x2), some (.int x3)] [.int s0] h Q := by
  refine V_if_eq (t := 26) dX8_tape_16 (by decide) (fun z1 => ?_) (fun z1 => ?_)
  ·
    refine V_bipush dX8_tape_26 bp_m2 ?_
    exact V_iret dX8_tape_28 rfl (q1 z1)
  ·
    refine V_iload_n dX8_tape_19 rfl rfl ?_
    refine V_sipush dX8_tape_20 sp_200 ?_
    refine V_icmp_le (t := 29) dX8_tape_23 (by decide) (fun z2 => ?_) (fun z2 => ?_)
    ·
      refine V_iload_n dX8_tape_29 rfl rfl ?_
      refine V_if_ge (t := 39) dX8_tape_30 (by decide) (fun z3 => ?_) (fun z3 => ?_)
      ·
        refine V_aload_n dX8_tape_39 rfl rfl ?_
        refine V_get (ci := 8) (j := 19) (C0 := RX8) (T := TX8) (N := 33) dX8_tape_40 rfl g42 (by decide) (by decide) kf_X8_47 rfl ?_
        refine V_iload_n dX8_tape_43 rfl rfl ?_
        refine V_iload_n dX8_tape_44 rfl rfl ?_
        refine V_iast dX8_tape_45 g55 (q2 z1 z2 z3) ?_
        refine V_aload_n dX8_tape_46 rfl rfl ?_
        refine V_get (ci := 8) (j := 20) (C0 := RX8) (T := TX8) (N := 33) dX8_tape_47 rfl g42 (by decide) (by decide) kf_X8_50 rfl ?_
        refine V_iload_n dX8_tape_50 rfl rfl ?_
        refine V_iload_n dX8_tape_51 rfl rfl ?_
        refine V_iast dX8_tape_52 g56 (q3 z1 z2 z3) ?_
        refine V_iconst dX8_tape_53 ic_0 ?_
        refine V_istore dX8_tape_54 (Nat.le_of_ble_eq_true rfl) ?_
        exact V_sub (by exact (And.intro rfl (And.intro rfl (And.intro rfl (And.intro rfl (And.intro rfl True.intro)))))) (q4 z1 z2 z3)
      ·
        refine V_aload_n dX8_tape_33 rfl rfl ?_
        refine V_iconst dX8_tape_34 ic_5 ?_
        exact V_sub (by exact (And.intro rfl (And.intro rfl (And.intro rfl (And.intro rfl True.intro))))) (q5 z1 z2 z3)
    ·
      refine V_bipush dX8_tape_26 bp_m2 ?_
      exact V_iret dX8_tape_28 rfl (q6 z1 z2)
theorem tX8_tape_38 {G : gx} {b : bg} {h : ah} {Q : Option Value → ah → Prop} {x1 : Int32} {x2 : Int32} {x3 : Int32} {s0 : Int32} (q1 : Q (some (.int s0)) h) : V G mX8_tape b 38 [some (.ref 42), some (.int x1), some (.int x2), some (.int x3)] [.int s0] h Q := by
  exact V_iret dX8_tape_38 rfl (q1)
theorem cX8_tape_1 {G : gx} {d mc ms cc zz d2 mc2 ms2 : Nat} {L : List (Option Value)} {S : List Value} {h : ah} {Q Q2 : Option Value → ah → Prop} {a0 : Value} (hM : Ct G mX8_isTape d2 mc2 ms2 [a0] h Q2) (hdd : d2 < d ∧ d ≤ 9) (hrm : (S.map fun v => v.category).sum ≤ 8) (hf : cc + mc2 ≤ mc ∧ zz + ms2 ≤ ms) (kk : ∀ r h2, Q2 r h2 → V G mX8_tape (d, mc, ms, cc + mc2, zz + ms2) 4 L (r.toList ++ S) h2 Q) : V G mX8_tape (d, mc, ms, cc, zz) 1 L (a0 :: S) h Q := V_callS hM dX8_tape_1 ⟨km_X8_168, kt_X8_isTape⟩ cw_X8_isTape hdd rfl rfl hrm hf kk
theorem cX8_tape_13 {G : gx} {d mc ms cc zz d2 mc2 ms2 : Nat} {L : List (Option Value)} {S : List Value} {h : ah} {Q Q2 : Option Value → ah → Prop} {a0 a1 a2 : Value} (hM : Ct G mX8_in d2 mc2 ms2 [a0, a1, a2] h Q2) (hdd : d2 < d ∧ d ≤ 9) (hrm : (S.map fun v => v.category).sum ≤ 8) (hf : cc + mc2 ≤ mc ∧ zz + ms2 ≤ ms) (kk : ∀ r h2, Q2 r h2 → V G mX8_tape (d, mc, ms, cc + mc2, zz + ms2) 16 L (r.toList ++ S) h2 Q) : V G mX8_tape (d, mc, ms, cc, zz) 13 L (a2 :: a1 :: a0 :: S) h Q := V_callS hM dX8_tape_13 ⟨km_X8_86, kt_X8_in⟩ cw_X8_in hdd rfl rfl hrm hf kk
theorem cX8_tape_35 {G : gx} {d mc ms cc zz d2 mc2 ms2 : Nat} {L : List (Option Value)} {S : List Value} {h : ah} {Q Q2 : Option Value → ah → Prop} {k : Nat} {fs : List Value} {a0 : Value} (hM : Ct G mX8_met d2 mc2 ms2 (.ref (k + 2) :: [a0]) h Q2) (hc : h (k + 2) = (8, .inl fs)) (hdd : d2 < d ∧ d ≤ 9) (hrm : (S.map fun v => v.category).sum ≤ 8) (hf : cc + mc2 ≤ mc ∧ zz + ms2 ≤ ms) (kk : ∀ r h2, Q2 r h2 → V G mX8_tape (d, mc, ms, cc + mc2, zz + ms2) 38 L (r.toList ++ S) h2 Q) : V G mX8_tape (d, mc, ms, cc, zz) 35 L (a0 :: .ref (k + 2) :: S) h Q := V_callV (ci := 8) (T := TX8) (N := 33) hM dX8_tape_35 ⟨km_X8_171, ki_X8_met, ks_X8_met⟩ cw_X8_met rfl hc (by decide) hdd rfl rfl hrm hf kk
theorem tX8_lose_0 {G : gx} {b : bg} {h : ah} {Q : Option Value → ah → Prop} {x1 : Int32} (q1 : V G mX8_lose b 1 [some (.ref 42), some (.int x1)] [.int x1] h Q) : V G mX8_lose b 0 [some (.ref 42), some (.int x1)] [] h Q := by
  refine V_iload_n dX8_lose_0 rfl rfl ?_
  exact V_sub (by exact (And.intro rfl (And.intro rfl True.intro))) (q1)
theorem tX8_lose_4 {G : gx} {b : bg} {h : ah} {Q : Option Value → ah → Prop} {x1 : Int32} {s0 : Int32} {mk : Int32} {mn : Int32} {mall : Int32} {msum : Int32} {mexchanges : Int32} {mcycleMany : Int32} {mwhich : Int32} {mlatest : Int32} {mfirstFound : Int32} {mpartMany : Int32} {mlength : Int32} {mforms : Nat → Int32} {msizes : Nat → Int32} (g42 : h 42 = (8, .inl [.int mk, .int mn, .int mall, .ref 43, .ref 44, .ref 45, .ref 46, .int msum, .ref 47, .int mexchanges, .ref 48, .ref 49, .ref 50, .ref 51, .int mcycleMany, .ref 52, .int mwhich, .ref 53, .ref 54, .ref 55, .ref 56, .ref 57, .ref 58, .int mlatest, .int mfirstFound, .int mpartMany, .ref 59, .int mlength, .ref 60, .ref 61, .ref 62, .ref 63, .ref 64])) (g55 : h 55 = (0, .inr (4, .inl mforms))) (g56 : h 56 = (0, .inr (4, .inl msizes))) (q1 : (¬ s0 = (0 : Int32)) → vp_in x1 4) (q2 : (¬ s0 = (0 : Int32)) → ((0 : Int32) ≤ (mforms x1.toNatClampNeg)) → vp_in x1 4) (q3 : (¬ s0 = (0 : Int32)) → ((0 : Int32) ≤ (mforms x1.toNatClampNeg)) → vp_in x1 4) (q4 : (¬ s0 = (0 : Int32)) → ((0 : Int32) ≤ (mforms x1.toNatClampNeg)) → Q (some (.int (msizes x1.toNatClampNeg))) (va_up h 55 (0, .inr (4, .inl (upd mforms x1.toNatClampNeg (-1 : Int32)))))) (q5 : (¬ s0 = (0 : Int32)) → (¬ (0 : Int32) ≤ (mforms x1.toNatClampNeg)) → V G mX8_lose b 21 [some (.ref 42), some (.int x1)] [.int (1 : Int32), .ref 42] h Q) (q6 : (s0 = (0 : Int32)) → Q (some (.int (-2 : Int32))) h) : V G mX8_lose b 4 [some (.ref 42), some (.int x1)] [.int s0] h Q := by
  refine V_if_ne (t := 10) dX8_lose_4 (by decide) (fun z1 => ?_) (fun z1 => ?_)
  ·
    refine V_aload_n dX8_lose_10 rfl rfl ?_
    refine V_get (ci := 8) (j := 19) (C0 := RX8) (T := TX8) (N := 33) dX8_lose_11 rfl g42 (by decide) (by decide) kf_X8_47 rfl ?_
    refine V_iload_n dX8_lose_14 rfl rfl ?_
    refine V_iald dX8_lose_15 g55 (q1 z1) ?_
    refine V_if_ge (t := 25) dX8_lose_16 (by decide) (fun z2 => ?_) (fun z2 => ?_)
    ·
      refine V_aload_n dX8_lose_25 rfl rfl ?_
      refine V_get (ci := 8) (j := 19) (C0 := RX8) (T := TX8) (N := 33) dX8_lose_26 rfl g42 (by decide) (by decide) kf_X8_47 rfl ?_
      refine V_iload_n dX8_lose_29 rfl rfl ?_
      refine V_iconst dX8_lose_30 ic_m1 ?_
      refine V_iast dX8_lose_31 g55 (q2 z1 z2) ?_
      refine V_aload_n dX8_lose_32 rfl rfl ?_
      refine V_get (ci := 8) (j := 20) (C0 := RX8) (T := TX8) (N := 33) dX8_lose_33 rfl g42 (by decide) (by decide) kf_X8_50 rfl ?_
      refine V_iload_n dX8_lose_36 rfl rfl ?_
      refine V_iald dX8_lose_37 g56 (q3 z1 z2) ?_
      exact V_iret dX8_lose_38 rfl (q4 z1 z2)
    ·
      refine V_aload_n dX8_lose_19 rfl rfl ?_
      refine V_iconst dX8_lose_20 ic_1 ?_
      exact V_sub (by exact (And.intro rfl (And.intro rfl True.intro))) (q5 z1 z2)
  ·
    refine V_bipush dX8_lose_7 bp_m2 ?_
    exact V_iret dX8_lose_9 rfl (q6 z1)
theorem tX8_lose_24 {G : gx} {b : bg} {h : ah} {Q : Option Value → ah → Prop} {x1 : Int32} {s0 : Int32} (q1 : Q (some (.int s0)) h) : V G mX8_lose b 24 [some (.ref 42), some (.int x1)] [.int s0] h Q := by
  exact V_iret dX8_lose_24 rfl (q1)
theorem cX8_lose_1 {G : gx} {d mc ms cc zz d2 mc2 ms2 : Nat} {L : List (Option Value)} {S : List Value} {h : ah} {Q Q2 : Option Value → ah → Prop} {a0 : Value} (hM : Ct G mX8_isTape d2 mc2 ms2 [a0] h Q2) (hdd : d2 < d ∧ d ≤ 9) (hrm : (S.map fun v => v.category).sum ≤ 8) (hf : cc + mc2 ≤ mc ∧ zz + ms2 ≤ ms) (kk : ∀ r h2, Q2 r h2 → V G mX8_lose (d, mc, ms, cc + mc2, zz + ms2) 4 L (r.toList ++ S) h2 Q) : V G mX8_lose (d, mc, ms, cc, zz) 1 L (a0 :: S) h Q := V_callS hM dX8_lose_1 ⟨km_X8_168, kt_X8_isTape⟩ cw_X8_isTape hdd rfl rfl hrm hf kk
theorem cX8_lose_21 {G : gx} {d mc ms cc zz d2 mc2 ms2 : Nat} {L : List (Option Value)} {S : List Value} {h : ah} {Q Q2 : Option Value → ah → Prop} {k : Nat} {fs : List Value} {a0 : Value} (hM : Ct G mX8_met d2 mc2 ms2 (.ref (k + 2) :: [a0]) h Q2) (hc : h (k + 2) = (8, .inl fs)) (hdd : d2 < d ∧ d ≤ 9) (hrm : (S.map fun v => v.category).sum ≤ 8) (hf : cc + mc2 ≤ mc ∧ zz + ms2 ≤ ms) (kk : ∀ r h2, Q2 r h2 → V G mX8_lose (d, mc, ms, cc + mc2, zz + ms2) 24 L (r.toList ++ S) h2 Q) : V G mX8_lose (d, mc, ms, cc, zz) 21 L (a0 :: .ref (k + 2) :: S) h Q := V_callV (ci := 8) (T := TX8) (N := 33) hM dX8_lose_21 ⟨km_X8_171, ki_X8_met, ks_X8_met⟩ cw_X8_met rfl hc (by decide) hdd rfl rfl hrm hf kk
theorem tX8_lacks_0 {G : gx} {b : bg} {h : ah} {Q : Option Value → ah → Prop} {x1 : Int32} {x2 : Int32} {x3 : Int32} {mk : Int32} {mn : Int32} {mall : Int32} {msum : Int32} {mexchanges : Int32} {mcycleMany : Int32} {mwhich : Int32} {mlatest : Int32} {mfirstFound : Int32} {mpartMany : Int32} {mlength : Int32} {mforms : Nat → Int32} {msizes : Nat → Int32} (g42 : h 42 = (8, .inl [.int mk, .int mn, .int mall, .ref 43, .ref 44, .ref 45, .ref 46, .int msum, .ref 47, .int mexchanges, .ref 48, .ref 49, .ref 50, .ref 51, .int mcycleMany, .ref 52, .int mwhich, .ref 53, .ref 54, .ref 55, .ref 56, .ref 57, .ref 58, .int mlatest, .int mfirstFound, .int mpartMany, .ref 59, .int mlength, .ref 60, .ref 61, .ref 62, .ref 63, .ref 64])) (g55 : h 55 = (0, .inr (4, .inl mforms))) (g56 : h 56 = (0, .inr (4, .inl msizes))) (q1 : vp_in x1 4) (q2 : ((0 : Int32) ≤ (mforms x1.toNatClampNeg)) → vp_in x1 4) (q3 : ((0 : Int32) ≤ (mforms x1.toNatClampNeg)) → ((mforms x1.toNatClampNeg) = x2) → vp_in x1 4) (q4 : ((0 : Int32) ≤ (mforms x1.toNatClampNeg)) → ((mforms x1.toNatClampNeg) = x2) → V G mX8_lacks b 43 [some (.ref 42), some (.int x1), some (.int x2), some (.int x3)] [.long (((msizes x1.toNatClampNeg) - (1 : Int32)).toInt64), .long (0 : Int64), .long (x3.toInt64)] h Q) (q5 : ((0 : Int32) ≤ (mforms x1.toNatClampNeg)) → (¬ (mforms x1.toNatClampNeg) = x2) → V G mX8_lacks b 27 [some (.ref 42), some (.int x1), some (.int x2), some (.int x3)] [.int (3 : Int32), .ref 42] h Q) (q6 : (¬ (0 : Int32) ≤ (mforms x1.toNatClampNeg)) → V G mX8_lacks b 11 [some (.ref 42), some (.int x1), some (.int x2), some (.int x3)] [.int (1 : Int32), .ref 42] h Q) : V G mX8_lacks b 0 [some (.ref 42), some (.int x1), some (.int x2), some (.int x3)] [] h Q := by
  refine V_aload_n dX8_lacks_0 rfl rfl ?_
  refine V_get (ci := 8) (j := 19) (C0 := RX8) (T := TX8) (N := 33) dX8_lacks_1 rfl g42 (by decide) (by decide) kf_X8_47 rfl ?_
  refine V_iload_n dX8_lacks_4 rfl rfl ?_
  refine V_iald dX8_lacks_5 g55 (q1) ?_
  refine V_if_ge (t := 15) dX8_lacks_6 (by decide) (fun z1 => ?_) (fun z1 => ?_)
  ·
    refine V_aload_n dX8_lacks_15 rfl rfl ?_
    refine V_get (ci := 8) (j := 19) (C0 := RX8) (T := TX8) (N := 33) dX8_lacks_16 rfl g42 (by decide) (by decide) kf_X8_47 rfl ?_
    refine V_iload_n dX8_lacks_19 rfl rfl ?_
    refine V_iald dX8_lacks_20 g55 (q2 z1) ?_
    refine V_iload_n dX8_lacks_21 rfl rfl ?_
    refine V_icmp_eq (t := 31) dX8_lacks_22 (by decide) (fun z2 => ?_) (fun z2 => ?_)
    ·
      refine V_iload_n dX8_lacks_31 rfl rfl ?_
      refine V_i2l dX8_lacks_32 ?_
      refine V_lconst dX8_lacks_33 lc_0 ?_
      refine V_aload_n dX8_lacks_34 rfl rfl ?_
      refine V_get (ci := 8) (j := 20) (C0 := RX8) (T := TX8) (N := 33) dX8_lacks_35 rfl g42 (by decide) (by decide) kf_X8_50 rfl ?_
      refine V_iload_n dX8_lacks_38 rfl rfl ?_
      refine V_iald dX8_lacks_39 g56 (q3 z1 z2) ?_
      refine V_iconst dX8_lacks_40 ic_1 ?_
      refine V_isub dX8_lacks_41 ?_
      refine V_i2l dX8_lacks_42 ?_
      exact V_sub (by exact (And.intro rfl (And.intro rfl (And.intro rfl (And.intro rfl True.intro))))) (q4 z1 z2)
    ·
      refine V_aload_n dX8_lacks_25 rfl rfl ?_
      refine V_iconst dX8_lacks_26 ic_3 ?_
      exact V_sub (by exact (And.intro rfl (And.intro rfl (And.intro rfl (And.intro rfl True.intro))))) (q5 z1 z2)
  ·
    refine V_aload_n dX8_lacks_9 rfl rfl ?_
    refine V_iconst dX8_lacks_10 ic_1 ?_
    exact V_sub (by exact (And.intro rfl (And.intro rfl (And.intro rfl (And.intro rfl True.intro))))) (q6 z1)
theorem tX8_lacks_14 {G : gx} {b : bg} {h : ah} {Q : Option Value → ah → Prop} {x1 : Int32} {x2 : Int32} {x3 : Int32} {s0 : Int32} (q1 : Q (some (.int s0)) h) : V G mX8_lacks b 14 [some (.ref 42), some (.int x1), some (.int x2), some (.int x3)] [.int s0] h Q := by
  exact V_iret dX8_lacks_14 rfl (q1)
theorem tX8_lacks_30 {G : gx} {b : bg} {h : ah} {Q : Option Value → ah → Prop} {x1 : Int32} {x2 : Int32} {x3 : Int32} {s0 : Int32} (q1 : Q (some (.int s0)) h) : V G mX8_lacks b 30 [some (.ref 42), some (.int x1), some (.int x2), some (.int x3)] [.int s0] h Q := by
  exact V_iret dX8_lacks_30 rfl (q1)
theorem tX8_lacks_46 {G : gx} {b : bg} {h : ah} {Q : Option Value → ah → Prop} {x1 : Int32} {x2 : Int32} {x3 : Int32} {s0 : Int32} (q1 : (s0 = (0 : Int32)) → V G mX8_lacks b 55 [some (.ref 42), some (.int x1), some (.int x2), some (.int x3)] [.int (2 : Int32), .ref 42] h Q) (q2 : (¬ s0 = (0 : Int32)) → Q (some (.int (0 : Int32))) h) : V G mX8_lacks b 46 [some (.ref 42), some (.int x1), some (.int x2), some (.int x3)] [.int s0] h Q := by
  refine V_if_eq (t := 53) dX8_lacks_46 (by decide) (fun z1 => ?_) (fun z1 => ?_)
  ·
    refine V_aload_n dX8_lacks_53 rfl rfl ?_
    refine V_iconst dX8_lacks_54 ic_2 ?_
    exact V_sub (by exact (And.intro rfl (And.intro rfl (And.intro rfl (And.intro rfl True.intro))))) (q1 z1)
  ·
    refine V_iconst dX8_lacks_49 ic_0 ?_
    refine V_goto (t := 58) dX8_lacks_50 (by decide) ?_
    exact V_iret dX8_lacks_58 rfl (q2 z1)
theorem tX8_lacks_58 {G : gx} {b : bg} {h : ah} {Q : Option Value → ah → Prop} {x1 : Int32} {x2 : Int32} {x3 : Int32} {s0 : Int32} (q1 : Q (some (.int s0)) h) : V G mX8_lacks b 58 [some (.ref 42), some (.int x1), some (.int x2), some (.int x3)] [.int s0] h Q := by
  exact V_iret dX8_lacks_58 rfl (q1)
theorem cX8_lacks_11 {G : gx} {d mc ms cc zz d2 mc2 ms2 : Nat} {L : List (Option Value)} {S : List Value} {h : ah} {Q Q2 : Option Value → ah → Prop} {k : Nat} {fs : List Value} {a0 : Value} (hM : Ct G mX8_met d2 mc2 ms2 (.ref (k + 2) :: [a0]) h Q2) (hc : h (k + 2) = (8, .inl fs)) (hdd : d2 < d ∧ d ≤ 9) (hrm : (S.map fun v => v.category).sum ≤ 8) (hf : cc + mc2 ≤ mc ∧ zz + ms2 ≤ ms) (kk : ∀ r h2, Q2 r h2 → V G mX8_lacks (d, mc, ms, cc + mc2, zz + ms2) 14 L (r.toList ++ S) h2 Q) : V G mX8_lacks (d, mc, ms, cc, zz) 11 L (a0 :: .ref (k + 2) :: S) h Q := V_callV (ci := 8) (T := TX8) (N := 33) hM dX8_lacks_11 ⟨km_X8_171, ki_X8_met, ks_X8_met⟩ cw_X8_met rfl hc (by decide) hdd rfl rfl hrm hf kk
theorem cX8_lacks_27 {G : gx} {d mc ms cc zz d2 mc2 ms2 : Nat} {L : List (Option Value)} {S : List Value} {h : ah} {Q Q2 : Option Value → ah → Prop} {k : Nat} {fs : List Value} {a0 : Value} (hM : Ct G mX8_met d2 mc2 ms2 (.ref (k + 2) :: [a0]) h Q2) (hc : h (k + 2) = (8, .inl fs)) (hdd : d2 < d ∧ d ≤ 9) (hrm : (S.map fun v => v.category).sum ≤ 8) (hf : cc + mc2 ≤ mc ∧ zz + ms2 ≤ ms) (kk : ∀ r h2, Q2 r h2 → V G mX8_lacks (d, mc, ms, cc + mc2, zz + ms2) 30 L (r.toList ++ S) h2 Q) : V G mX8_lacks (d, mc, ms, cc, zz) 27 L (a0 :: .ref (k + 2) :: S) h Q := V_callV (ci := 8) (T := TX8) (N := 33) hM dX8_lacks_27 ⟨km_X8_171, ki_X8_met, ks_X8_met⟩ cw_X8_met rfl hc (by decide) hdd rfl rfl hrm hf kk
theorem cX8_lacks_43 {G : gx} {d mc ms cc zz d2 mc2 ms2 : Nat} {L : List (Option Value)} {S : List Value} {h : ah} {Q Q2 : Option Value → ah → Prop} {a0 a1 a2 : Value} (hM : Ct G mX8_in d2 mc2 ms2 [a0, a1, a2] h Q2) (hdd : d2 < d ∧ d ≤ 9) (hrm : (S.map fun v => v.category).sum ≤ 8) (hf : cc + mc2 ≤ mc ∧ zz + ms2 ≤ ms) (kk : ∀ r h2, Q2 r h2 → V G mX8_lacks (d, mc, ms, cc + mc2, zz + ms2) 46 L (r.toList ++ S) h2 Q) : V G mX8_lacks (d, mc, ms, cc, zz) 43 L (a2 :: a1 :: a0 :: S) h Q := V_callS hM dX8_lacks_43 ⟨km_X8_86, kt_X8_in⟩ cw_X8_in hdd rfl rfl hrm hf kk
theorem cX8_lacks_55 {G : gx} {d mc ms cc zz d2 mc2 ms2 : Nat} {L : List (Option Value)} {S : List Value} {h : ah} {Q Q2 : Option Value → ah → Prop} {k : Nat} {fs : List Value} {a0 : Value} (hM : Ct G mX8_met d2 mc2 ms2 (.ref (k + 2) :: [a0]) h Q2) (hc : h (k + 2) = (8, .inl fs)) (hdd : d2 < d ∧ d ≤ 9) (hrm : (S.map fun v => v.category).sum ≤ 8) (hf : cc + mc2 ≤ mc ∧ zz + ms2 ≤ ms) (kk : ∀ r h2, Q2 r h2 → V G mX8_lacks (d, mc, ms, cc + mc2, zz + ms2) 58 L (r.toList ++ S) h2 Q) : V G mX8_lacks (d, mc, ms, cc, zz) 55 L (a0 :: .ref (k + 2) :: S) h Q := V_callV (ci := 8) (T := TX8) (N := 33) hM dX8_lacks_55 ⟨km_X8_171, ki_X8_met, ks_X8_met⟩ cw_X8_met rfl hc (by decide) hdd rfl rfl hrm hf kk
theorem tX8_put_0 {G : gx} {b : bg} {h : ah} {Q : Option Value → ah → Prop} {x1 : Int32} {x2 : Int32} {x3 : Int32} {x4 : Int32} (q1 : V G mX8_put b 1 [some (.ref 42), some (.int x1), some (.int x2), some (.int x3), some (.int x4)] [.int x1] h Q) : V G mX8_put b 0 [some (.ref 42), some (.int x1), some (.int x2), some (.int x3), some (.int x4)] [] h Q := by
  refine V_iload_n dX8_put_0 rfl rfl ?_
  exact V_sub (by exact (And.intro rfl (And.intro rfl (And.intro rfl (And.intro rfl (And.intro rfl True.intro)))))) (q1)
theorem tX8_put_4 {G : gx} {b : bg} {h : ah} {Q : Option Value → ah → Prop} {x1 : Int32} {x2 : Int32} {x3 : Int32} {x4 : Int32} {s0 : Int32} (q1 : (s0 = (0 : Int32)) → Q (some (.int (-2 : Int32))) h) (q2 : (¬ s0 = (0 : Int32)) → V G mX8_put b 13 [some (.ref 42), some (.int x1), some (.int x2), some (.int x3), some (.int x4)] [.long (2 : Int64), .long (0 : Int64), .long (x2.toInt64)] h Q) : V G mX8_put b 4 [some (.ref 42), some (.int x1), some (.int x2), some (.int x3), some (.int x4)] [.int s0] h Q := by
  refine V_if_eq (t := 19) dX8_put_4 (by decide) (fun z1 => ?_) (fun z1 => ?_)
  ·
    refine V_bipush dX8_put_19 bp_m2 ?_
    exact V_iret dX8_put_21 rfl (q1 z1)
  ·
    refine V_iload_n dX8_put_7 rfl rfl ?_
    refine V_i2l dX8_put_8 ?_
    refine V_lconst dX8_put_9 lc_0 ?_
    refine V_ldc2 dX8_put_10 kk_X8_82 ?_
    exact V_sub (by exact (And.intro rfl (And.intro rfl (And.intro rfl (And.intro rfl (And.intro rfl True.intro)))))) (q2 z1)
theorem tX8_put_16 {G : gx} {b : bg} {h : ah} {Q : Option Value → ah → Prop} {x1 : Int32} {x2 : Int32} {x3 : Int32} {x4 : Int32} {s0 : Int32} (q1 : (¬ s0 = (0 : Int32)) → V G mX8_put b 26 [some (.ref 42), some (.int x1), some (.int x2), some (.int x3), some (.int x4)] [.int x3, .int x2, .int x1, .ref 42] h Q) (q2 : (s0 = (0 : Int32)) → Q (some (.int (-2 : Int32))) h) : V G mX8_put b 16 [some (.ref 42), some (.int x1), some (.int x2), some (.int x3), some (.int x4)] [.int s0] h Q := by
  refine V_if_ne (t := 22) dX8_put_16 (by decide) (fun z1 => ?_) (fun z1 => ?_)
  ·
    refine V_aload_n dX8_put_22 rfl rfl ?_
    refine V_iload_n dX8_put_23 rfl rfl ?_
    refine V_iload_n dX8_put_24 rfl rfl ?_
    refine V_iload_n dX8_put_25 rfl rfl ?_
    exact V_sub (by exact (And.intro rfl (And.intro rfl (And.intro rfl (And.intro rfl (And.intro rfl True.intro)))))) (q1 z1)
  ·
    refine V_bipush dX8_put_19 bp_m2 ?_
    exact V_iret dX8_put_21 rfl (q2 z1)
theorem tX8_put_29 {G : gx} {b : bg} {h : ah} {Q : Option Value → ah → Prop} {x1 : Int32} {x2 : Int32} {x3 : Int32} {x4 : Int32} {s0 : Int32} {mk : Int32} {mn : Int32} {mall : Int32} {msum : Int32} {mexchanges : Int32} {mcycleMany : Int32} {mwhich : Int32} {mlatest : Int32} {mfirstFound : Int32} {mpartMany : Int32} {mlength : Int32} {mitems : Nat → Int32} (g42 : h 42 = (8, .inl [.int mk, .int mn, .int mall, .ref 43, .ref 44, .ref 45, .ref 46, .int msum, .ref 47, .int mexchanges, .ref 48, .ref 49, .ref 50, .ref 51, .int mcycleMany, .ref 52, .int mwhich, .ref 53, .ref 54, .ref 55, .ref 56, .ref 57, .ref 58, .int mlatest, .int mfirstFound, .int mpartMany, .ref 59, .int mlength, .ref 60, .ref 61, .ref 62, .ref 63, .ref 64])) (g57 : h 57 = (0, .inr (800, .inl mitems))) (q1 : (s0 = (0 : Int32)) → (¬ x2 = (0 : Int32)) → (¬ x2 = (1 : Int32)) → vp_in (((200 : Int32) * x1) + x3) 800) (q2 : (s0 = (0 : Int32)) → (¬ x2 = (0 : Int32)) → (¬ x2 = (1 : Int32)) → Q (some (.int (1 : Int32))) (va_up h 57 (0, .inr (800, .inl (upd mitems (((200 : Int32) * x1) + x3).toNatClampNeg (x4.toInt16.toInt32)))))) (q3 : (s0 = (0 : Int32)) → (¬ x2 = (0 : Int32)) → (x2 = (1 : Int32)) → vp_in (((200 : Int32) * x1) + x3) 800) (q4 : (s0 = (0 : Int32)) → (¬ x2 = (0 : Int32)) → (x2 = (1 : Int32)) → Q (some (.int (1 : Int32))) (va_up h 57 (0, .inr (800, .inl (upd mitems (((200 : Int32) * x1) + x3).toNatClampNeg (x4 &&& (65535 : Int32))))))) (q5 : (s0 = (0 : Int32)) → (x2 = (0 : Int32)) → vp_in (((200 : Int32) * x1) + x3) 800) (q6 : (s0 = (0 : Int32)) → (x2 = (0 : Int32)) → Q (some (.int (1 : Int32))) (va_up h 57 (0, .inr (800, .inl (upd mitems (((200 : Int32) * x1) + x3).toNatClampNeg (x4.toInt8.toInt32)))))) (q7 : (¬ s0 = (0 : Int32)) → Q (some (.int s0)) h) : V G mX8_put b 29 [some (.ref 42), some (.int x1), some (.int x2), some (.int x3), some (.int x4)] [.int s0] h Q := by
  refine V_istore dX8_put_29 (Nat.le_of_ble_eq_true rfl) ?_
  refine V_iload dX8_put_31 rfl ?_
  refine V_if_eq (t := 39) dX8_put_33 (by decide) (fun z1 => ?_) (fun z1 => ?_)
  ·
    refine V_aload_n dX8_put_39 rfl rfl ?_
    refine V_get (ci := 8) (j := 21) (C0 := RX8) (T := TX8) (N := 33) dX8_put_40 rfl g42 (by decide) (by decide) kf_X8_53 rfl ?_
    refine V_sipush dX8_put_43 sp_200 ?_
    refine V_iload_n dX8_put_46 rfl rfl ?_
    refine V_imul dX8_put_47 ?_
    refine V_iload_n dX8_put_48 rfl rfl ?_
    refine V_iadd dX8_put_49 ?_
    refine V_iload_n dX8_put_50 rfl rfl ?_
    refine V_if_ne (t := 60) dX8_put_51 (by decide) (fun z2 => ?_) (fun z2 => ?_)
    ·
      refine V_iload_n dX8_put_60 rfl rfl ?_
      refine V_iconst dX8_put_61 ic_1 ?_
      refine V_icmp_ne (t := 73) dX8_put_62 (by decide) (fun z3 => ?_) (fun z3 => ?_)
      ·
        refine V_iload dX8_put_73 rfl ?_
        refine V_i2s dX8_put_75 ?_
        refine V_iast dX8_put_76 g57 (q1 z1 z2 z3) ?_
        refine V_iconst dX8_put_77 ic_1 ?_
        exact V_iret dX8_put_78 rfl (q2 z1 z2 z3)
      ·
        refine V_iload dX8_put_65 rfl ?_
        refine V_ldc dX8_put_67 kk_X8_178 ?_
        refine V_iand dX8_put_69 ?_
        refine V_goto (t := 76) dX8_put_70 (by decide) ?_
        refine V_iast dX8_put_76 g57 (q3 z1 z2 z3) ?_
        refine V_iconst dX8_put_77 ic_1 ?_
        exact V_iret dX8_put_78 rfl (q4 z1 z2 z3)
    ·
      refine V_iload dX8_put_54 rfl ?_
      refine V_i2b dX8_put_56 ?_
      refine V_goto (t := 76) dX8_put_57 (by decide) ?_
      refine V_iast dX8_put_76 g57 (q5 z1 z2) ?_
      refine V_iconst dX8_put_77 ic_1 ?_
      exact V_iret dX8_put_78 rfl (q6 z1 z2)
  ·
    refine V_iload dX8_put_36 rfl ?_
    exact V_iret dX8_put_38 rfl (q7 z1)
theorem cX8_put_1 {G : gx} {d mc ms cc zz d2 mc2 ms2 : Nat} {L : List (Option Value)} {S : List Value} {h : ah} {Q Q2 : Option Value → ah → Prop} {a0 : Value} (hM : Ct G mX8_isTape d2 mc2 ms2 [a0] h Q2) (hdd : d2 < d ∧ d ≤ 9) (hrm : (S.map fun v => v.category).sum ≤ 8) (hf : cc + mc2 ≤ mc ∧ zz + ms2 ≤ ms) (kk : ∀ r h2, Q2 r h2 → V G mX8_put (d, mc, ms, cc + mc2, zz + ms2) 4 L (r.toList ++ S) h2 Q) : V G mX8_put (d, mc, ms, cc, zz) 1 L (a0 :: S) h Q := V_callS hM dX8_put_1 ⟨km_X8_168, kt_X8_isTape⟩ cw_X8_isTape hdd rfl rfl hrm hf kk
theorem cX8_put_13 {G : gx} {d mc ms cc zz d2 mc2 ms2 : Nat} {L : List (Option Value)} {S : List Value} {h : ah} {Q Q2 : Option Value → ah → Prop} {a0 a1 a2 : Value} (hM : Ct G mX8_in d2 mc2 ms2 [a0, a1, a2] h Q2) (hdd : d2 < d ∧ d ≤ 9) (hrm : (S.map fun v => v.category).sum ≤ 8) (hf : cc + mc2 ≤ mc ∧ zz + ms2 ≤ ms) (kk : ∀ r h2, Q2 r h2 → V G mX8_put (d, mc, ms, cc + mc2, zz + ms2) 16 L (r.toList ++ S) h2 Q) : V G mX8_put (d, mc, ms, cc, zz) 13 L (a2 :: a1 :: a0 :: S) h Q := V_callS hM dX8_put_13 ⟨km_X8_86, kt_X8_in⟩ cw_X8_in hdd rfl rfl hrm hf kk
theorem cX8_put_26 {G : gx} {d mc ms cc zz d2 mc2 ms2 : Nat} {L : List (Option Value)} {S : List Value} {h : ah} {Q Q2 : Option Value → ah → Prop} {k : Nat} {fs : List Value} {a0 a1 a2 : Value} (hM : Ct G mX8_lacks d2 mc2 ms2 (.ref (k + 2) :: [a0, a1, a2]) h Q2) (hc : h (k + 2) = (8, .inl fs)) (hdd : d2 < d ∧ d ≤ 9) (hrm : (S.map fun v => v.category).sum ≤ 8) (hf : cc + mc2 ≤ mc ∧ zz + ms2 ≤ ms) (kk : ∀ r h2, Q2 r h2 → V G mX8_put (d, mc, ms, cc + mc2, zz + ms2) 29 L (r.toList ++ S) h2 Q) : V G mX8_put (d, mc, ms, cc, zz) 26 L (a2 :: a1 :: a0 :: .ref (k + 2) :: S) h Q := V_callV (ci := 8) (T := TX8) (N := 33) hM dX8_put_26 ⟨km_X8_174, ki_X8_lacks, ks_X8_lacks⟩ cw_X8_lacks rfl hc (by decide) hdd rfl rfl hrm hf kk
theorem tX8_get_0 {G : gx} {b : bg} {h : ah} {Q : Option Value → ah → Prop} {x1 : Int32} {x2 : Int32} {x3 : Int32} (q1 : V G mX8_get b 1 [some (.ref 42), some (.int x1), some (.int x2), some (.int x3)] [.int x1] h Q) : V G mX8_get b 0 [some (.ref 42), some (.int x1), some (.int x2), some (.int x3)] [] h Q := by
  refine V_iload_n dX8_get_0 rfl rfl ?_
  exact V_sub (by exact (And.intro rfl (And.intro rfl (And.intro rfl (And.intro rfl True.intro))))) (q1)
theorem tX8_get_4 {G : gx} {b : bg} {h : ah} {Q : Option Value → ah → Prop} {x1 : Int32} {x2 : Int32} {x3 : Int32} {s0 : Int32} (q1 : (s0 = (0 : Int32)) → Q (some (.int (-2147483648 : Int32))) h) (q2 : (¬ s0 = (0 : Int32)) → V G mX8_get b 13 [some (.ref 42), some (.int x1), some (.int x2), some (.int x3)] [.long (2 : Int64), .long (0 : Int64), .long (x2.toInt64)] h Q) : V G mX8_get b 4 [some (.ref 42), some (.int x1), some (.int x2), some (.int x3)] [.int s0] h Q := by
  refine V_if_eq (t := 29) dX8_get_4 (by decide) (fun z1 => ?_) (fun z1 => ?_)
  ·
    refine V_ldc dX8_get_29 kk_X8_179 ?_
    exact V_iret dX8_get_31 rfl (q1 z1)
  ·
    refine V_iload_n dX8_get_7 rfl rfl ?_
    refine V_i2l dX8_get_8 ?_
    refine V_lconst dX8_get_9 lc_0 ?_
    refine V_ldc2 dX8_get_10 kk_X8_82 ?_
    exact V_sub (by exact (And.intro rfl (And.intro rfl (And.intro rfl (And.intro rfl True.intro))))) (q2 z1)
theorem tX8_get_16 {G : gx} {b : bg} {h : ah} {Q : Option Value → ah → Prop} {x1 : Int32} {x2 : Int32} {x3 : Int32} {s0 : Int32} (q1 : (s0 = (0 : Int32)) → Q (some (.int (-2147483648 : Int32))) h) (q2 : (¬ s0 = (0 : Int32)) → V G mX8_get b 23 [some (.ref 42), some (.int x1), some (.int x2), some (.int x3)] [.int x3, .int x2, .int x1, .ref 42] h Q) : V G mX8_get b 16 [some (.ref 42), some (.int x1), some (.int x2), some (.int x3)] [.int s0] h Q := by
  refine V_if_eq (t := 29) dX8_get_16 (by decide) (fun z1 => ?_) (fun z1 => ?_)
  ·
    refine V_ldc dX8_get_29 kk_X8_179 ?_
    exact V_iret dX8_get_31 rfl (q1 z1)
  ·
    refine V_aload_n dX8_get_19 rfl rfl ?_
    refine V_iload_n dX8_get_20 rfl rfl ?_
    refine V_iload_n dX8_get_21 rfl rfl ?_
    refine V_iload_n dX8_get_22 rfl rfl ?_
    exact V_sub (by exact (And.intro rfl (And.intro rfl (And.intro rfl (And.intro rfl True.intro))))) (q2 z1)
theorem tX8_get_26 {G : gx} {b : bg} {h : ah} {Q : Option Value → ah → Prop} {x1 : Int32} {x2 : Int32} {x3 : Int32} {s0 : Int32} {mk : Int32} {mn : Int32} {mall : Int32} {msum : Int32} {mexchanges : Int32} {mcycleMany : Int32} {mwhich : Int32} {mlatest : Int32} {mfirstFound : Int32} {mpartMany : Int32} {mlength : Int32} {mitems : Nat → Int32} (g42 : h 42 = (8, .inl [.int mk, .int mn, .int mall, .ref 43, .ref 44, .ref 45, .ref 46, .int msum, .ref 47, .int mexchanges, .ref 48, .ref 49, .ref 50, .ref 51, .int mcycleMany, .ref 52, .int mwhich, .ref 53, .ref 54, .ref 55, .ref 56, .ref 57, .ref 58, .int mlatest, .int mfirstFound, .int mpartMany, .ref 59, .int mlength, .ref 60, .ref 61, .ref 62, .ref 63, .ref 64])) (g57 : h 57 = (0, .inr (800, .inl mitems))) (q1 : (s0 = (0 : Int32)) → vp_in (((200 : Int32) * x1) + x3) 800) (q2 : (s0 = (0 : Int32)) → Q (some (.int (mitems (((200 : Int32) * x1) + x3).toNatClampNeg))) h) (q3 : (¬ s0 = (0 : Int32)) → Q (some (.int (-2147483648 : Int32))) h) : V G mX8_get b 26 [some (.ref 42), some (.int x1), some (.int x2), some (.int x3)] [.int s0] h Q := by
  refine V_if_eq (t := 32) dX8_get_26 (by decide) (fun z1 => ?_) (fun z1 => ?_)
  ·
    refine V_aload_n dX8_get_32 rfl rfl ?_
    refine V_get (ci := 8) (j := 21) (C0 := RX8) (T := TX8) (N := 33) dX8_get_33 rfl g42 (by decide) (by decide) kf_X8_53 rfl ?_
    refine V_sipush dX8_get_36 sp_200 ?_
    refine V_iload_n dX8_get_39 rfl rfl ?_
    refine V_imul dX8_get_40 ?_
    refine V_iload_n dX8_get_41 rfl rfl ?_
    refine V_iadd dX8_get_42 ?_
    refine V_iald dX8_get_43 g57 (q1 z1) ?_
    exact V_iret dX8_get_44 rfl (q2 z1)
  ·
    refine V_ldc dX8_get_29 kk_X8_179 ?_
    exact V_iret dX8_get_31 rfl (q3 z1)
theorem cX8_get_1 {G : gx} {d mc ms cc zz d2 mc2 ms2 : Nat} {L : List (Option Value)} {S : List Value} {h : ah} {Q Q2 : Option Value → ah → Prop} {a0 : Value} (hM : Ct G mX8_isTape d2 mc2 ms2 [a0] h Q2) (hdd : d2 < d ∧ d ≤ 9) (hrm : (S.map fun v => v.category).sum ≤ 8) (hf : cc + mc2 ≤ mc ∧ zz + ms2 ≤ ms) (kk : ∀ r h2, Q2 r h2 → V G mX8_get (d, mc, ms, cc + mc2, zz + ms2) 4 L (r.toList ++ S) h2 Q) : V G mX8_get (d, mc, ms, cc, zz) 1 L (a0 :: S) h Q := V_callS hM dX8_get_1 ⟨km_X8_168, kt_X8_isTape⟩ cw_X8_isTape hdd rfl rfl hrm hf kk
theorem cX8_get_13 {G : gx} {d mc ms cc zz d2 mc2 ms2 : Nat} {L : List (Option Value)} {S : List Value} {h : ah} {Q Q2 : Option Value → ah → Prop} {a0 a1 a2 : Value} (hM : Ct G mX8_in d2 mc2 ms2 [a0, a1, a2] h Q2) (hdd : d2 < d ∧ d ≤ 9) (hrm : (S.map fun v => v.category).sum ≤ 8) (hf : cc + mc2 ≤ mc ∧ zz + ms2 ≤ ms) (kk : ∀ r h2, Q2 r h2 → V G mX8_get (d, mc, ms, cc + mc2, zz + ms2) 16 L (r.toList ++ S) h2 Q) : V G mX8_get (d, mc, ms, cc, zz) 13 L (a2 :: a1 :: a0 :: S) h Q := V_callS hM dX8_get_13 ⟨km_X8_86, kt_X8_in⟩ cw_X8_in hdd rfl rfl hrm hf kk
theorem cX8_get_23 {G : gx} {d mc ms cc zz d2 mc2 ms2 : Nat} {L : List (Option Value)} {S : List Value} {h : ah} {Q Q2 : Option Value → ah → Prop} {k : Nat} {fs : List Value} {a0 a1 a2 : Value} (hM : Ct G mX8_lacks d2 mc2 ms2 (.ref (k + 2) :: [a0, a1, a2]) h Q2) (hc : h (k + 2) = (8, .inl fs)) (hdd : d2 < d ∧ d ≤ 9) (hrm : (S.map fun v => v.category).sum ≤ 8) (hf : cc + mc2 ≤ mc ∧ zz + ms2 ≤ ms) (kk : ∀ r h2, Q2 r h2 → V G mX8_get (d, mc, ms, cc + mc2, zz + ms2) 26 L (r.toList ++ S) h2 Q) : V G mX8_get (d, mc, ms, cc, zz) 23 L (a2 :: a1 :: a0 :: .ref (k + 2) :: S) h Q := V_callV (ci := 8) (T := TX8) (N := 33) hM dX8_get_23 ⟨km_X8_174, ki_X8_lacks, ks_X8_lacks⟩ cw_X8_lacks rfl hc (by decide) hdd rfl rfl hrm hf kk
theorem tX8_isWithin_0 {G : gx} {b : bg} {h : ah} {Q : Option Value → ah → Prop} {x1 : Int32} {x2 : Int32} {x3 : Int32} {mk : Int32} {mn : Int32} {mall : Int32} {msum : Int32} {mexchanges : Int32} {mcycleMany : Int32} {mwhich : Int32} {mlatest : Int32} {mfirstFound : Int32} {mpartMany : Int32} {mlength : Int32} {msizes : Nat → Int32} (g42 : h 42 = (8, .inl [.int mk, .int mn, .int mall, .ref 43, .ref 44, .ref 45, .ref 46, .int msum, .ref 47, .int mexchanges, .ref 48, .ref 49, .ref 50, .ref 51, .int mcycleMany, .ref 52, .int mwhich, .ref 53, .ref 54, .ref 55, .ref 56, .ref 57, .ref 58, .int mlatest, .int mfirstFound, .int mpartMany, .ref 59, .int mlength, .ref 60, .ref 61, .ref 62, .ref 63, .ref 64])) (g56 : h 56 = (0, .inr (4, .inl msizes))) (q1 : (x2 < (0 : Int32)) → Q (some (.int (0 : Int32))) h) (q2 : (¬ x2 < (0 : Int32)) → (x3 < (0 : Int32)) → Q (some (.int (0 : Int32))) h) (q3 : (¬ x2 < (0 : Int32)) → (¬ x3 < (0 : Int32)) → vp_in x1 4) (q4 : (¬ x2 < (0 : Int32)) → (¬ x3 < (0 : Int32)) → ((0 : Int32) < (lg_cmp (x2.toInt64 + x3.toInt64) ((msizes x1.toNatClampNeg).toInt64))) → Q (some (.int (0 : Int32))) h) (q5 : (¬ x2 < (0 : Int32)) → (¬ x3 < (0 : Int32)) → (¬ (0 : Int32) < (lg_cmp (x2.toInt64 + x3.toInt64) ((msizes x1.toNatClampNeg).toInt64))) → Q (some (.int (1 : Int32))) h) : V G mX8_isWithin b 0 [some (.ref 42), some (.int x1), some (.int x2), some (.int x3)] [] h Q := by
  refine V_iload_n dX8_isWithin_0 rfl rfl ?_
  refine V_if_lt (t := 28) dX8_isWithin_1 (by decide) (fun z1 => ?_) (fun z1 => ?_)
  ·
    refine V_iconst dX8_isWithin_28 ic_0 ?_
    exact V_zret dX8_isWithin_29 rfl rfl (q1 z1)
  ·
    refine V_iload_n dX8_isWithin_4 rfl rfl ?_
    refine V_if_lt (t := 28) dX8_isWithin_5 (by decide) (fun z2 => ?_) (fun z2 => ?_)
    ·
      refine V_iconst dX8_isWithin_28 ic_0 ?_
      exact V_zret dX8_isWithin_29 rfl rfl (q2 z1 z2)
    ·
      refine V_iload_n dX8_isWithin_8 rfl rfl ?_
      refine V_i2l dX8_isWithin_9 ?_
      refine V_iload_n dX8_isWithin_10 rfl rfl ?_
      refine V_i2l dX8_isWithin_11 ?_
      refine V_ladd dX8_isWithin_12 ?_
      refine V_aload_n dX8_isWithin_13 rfl rfl ?_
      refine V_get (ci := 8) (j := 20) (C0 := RX8) (T := TX8) (N := 33) dX8_isWithin_14 rfl g42 (by decide) (by decide) kf_X8_50 rfl ?_
      refine V_iload_n dX8_isWithin_17 rfl rfl ?_
      refine V_iald dX8_isWithin_18 g56 (q3 z1 z2) ?_
      refine V_i2l dX8_isWithin_19 ?_
      refine V_lcmp dX8_isWithin_20 ?_
      refine V_if_gt (t := 28) dX8_isWithin_21 (by decide) (fun z3 => ?_) (fun z3 => ?_)
      ·
        refine V_iconst dX8_isWithin_28 ic_0 ?_
        exact V_zret dX8_isWithin_29 rfl rfl (q4 z1 z2 z3)
      ·
        refine V_iconst dX8_isWithin_24 ic_1 ?_
        refine V_goto (t := 29) dX8_isWithin_25 (by decide) ?_
        exact V_zret dX8_isWithin_29 rfl rfl (q5 z1 z2 z3)
theorem tX8_copy_0 {G : gx} {b : bg} {h : ah} {Q : Option Value → ah → Prop} {x1 : Int32} {x2 : Int32} {x3 : Int32} {x4 : Int32} {x5 : Int32} (q1 : V G mX8_copy b 1 [some (.ref 42), some (.int x1), some (.int x2), some (.int x3), some (.int x4), some (.int x5)] [.int x1] h Q) : V G mX8_copy b 0 [some (.ref 42), some (.int x1), some (.int x2), some (.int x3), some (.int x4), some (.int x5)] [] h Q := by
  refine V_iload_n dX8_copy_0 rfl rfl ?_
  exact V_sub (by exact (And.intro rfl (And.intro rfl (And.intro rfl (And.intro rfl (And.intro rfl (And.intro rfl True.intro))))))) (q1)
theorem tX8_copy_94 {G : gx} {b : bg} {h : ah} {Q : Option Value → ah → Prop} {x1 : Int32} {x2 : Int32} {x3 : Int32} {x4 : Int32} {x5 : Int32} {x6 : Int32} {mk : Int32} {mn : Int32} {mall : Int32} {msum : Int32} {mexchanges : Int32} {mcycleMany : Int32} {mwhich : Int32} {mlatest : Int32} {mfirstFound : Int32} {mpartMany : Int32} {mlength : Int32} {mitems : Nat → Int32} {mmoved : Nat → Int32} (g42 : h 42 = (8, .inl [.int mk, .int mn, .int mall, .ref 43, .ref 44, .ref 45, .ref 46, .int msum, .ref 47, .int mexchanges, .ref 48, .ref 49, .ref 50, .ref 51, .int mcycleMany, .ref 52, .int mwhich, .ref 53, .ref 54, .ref 55, .ref 56, .ref 57, .ref 58, .int mlatest, .int mfirstFound, .int mpartMany, .ref 59, .int mlength, .ref 60, .ref 61, .ref 62, .ref 63, .ref 64])) (g57 : h 57 = (0, .inr (800, .inl mitems))) (g58 : h 58 = (0, .inr (200, .inl mmoved))) (q1 : (x5 ≤ x6) → V G mX8_copy b 132 [some (.ref 42), some (.int x1), some (.int x2), some (.int x3), some (.int x4), some (.int x5), some (.int (0 : Int32))] [] h Q) (q2 : (¬ x5 ≤ x6) → vp_in ((((200 : Int32) * x1) + x2) + x6) 800) (q3 : (¬ x5 ≤ x6) → vp_in x6 200) (q4 : (¬ x5 ≤ x6) → V G mX8_copy b 94 [some (.ref 42), some (.int x1), some (.int x2), some (.int x3), some (.int x4), some (.int x5), some (.int (x6 + (1 : Int32)))] [] (va_up h 58 (0, .inr (200, .inl (upd mmoved x6.toNatClampNeg (mitems ((((200 : Int32) * x1) + x2) + x6).toNatClampNeg))))) Q) : V G mX8_copy b 94 [some (.ref 42), some (.int x1), some (.int x2), some (.int x3), some (.int x4), some (.int x5), some (.int x6)] [] h Q := by
  refine V_iload dX8_copy_94 rfl ?_
  refine V_iload dX8_copy_96 rfl ?_
  refine V_icmp_ge (t := 129) dX8_copy_98 (by decide) (fun z1 => ?_) (fun z1 => ?_)
  ·
    refine V_iconst dX8_copy_129 ic_0 ?_
    refine V_istore dX8_copy_130 (Nat.le_of_ble_eq_true rfl) ?_
    exact V_sub (by exact (And.intro rfl (And.intro rfl (And.intro rfl (And.intro rfl (And.intro rfl (And.intro rfl (And.intro rfl True.intro)))))))) (q1 z1)
  ·
    refine V_aload_n dX8_copy_101 rfl rfl ?_
    refine V_get (ci := 8) (j := 22) (C0 := RX8) (T := TX8) (N := 33) dX8_copy_102 rfl g42 (by decide) (by decide) kf_X8_56 rfl ?_
    refine V_iload dX8_copy_105 rfl ?_
    refine V_aload_n dX8_copy_107 rfl rfl ?_
    refine V_get (ci := 8) (j := 21) (C0 := RX8) (T := TX8) (N := 33) dX8_copy_108 rfl g42 (by decide) (by decide) kf_X8_53 rfl ?_
    refine V_sipush dX8_copy_111 sp_200 ?_
    refine V_iload_n dX8_copy_114 rfl rfl ?_
    refine V_imul dX8_copy_115 ?_
    refine V_iload_n dX8_copy_116 rfl rfl ?_
    refine V_iadd dX8_copy_117 ?_
    refine V_iload dX8_copy_118 rfl ?_
    refine V_iadd dX8_copy_120 ?_
    refine V_iald dX8_copy_121 g57 (q2 z1) ?_
    refine V_iast dX8_copy_122 g58 (q3 z1) ?_
    refine V_inc dX8_copy_123 ic_1 rfl (Nat.le_of_ble_eq_true rfl) ?_
    refine V_goto (t := 94) dX8_copy_126 (by decide) ?_
    exact V_sub (by exact (And.intro rfl (And.intro rfl (And.intro rfl (And.intro rfl (And.intro rfl (And.intro rfl (And.intro rfl True.intro)))))))) (q4 z1)
theorem tX8_copy_132 {G : gx} {b : bg} {h : ah} {Q : Option Value → ah → Prop} {x1 : Int32} {x2 : Int32} {x3 : Int32} {x4 : Int32} {x5 : Int32} {x6 : Int32} {mk : Int32} {mn : Int32} {mall : Int32} {msum : Int32} {mexchanges : Int32} {mcycleMany : Int32} {mwhich : Int32} {mlatest : Int32} {mfirstFound : Int32} {mpartMany : Int32} {mlength : Int32} {mmoved : Nat → Int32} {mitems : Nat → Int32} (g42 : h 42 = (8, .inl [.int mk, .int mn, .int mall, .ref 43, .ref 44, .ref 45, .ref 46, .int msum, .ref 47, .int mexchanges, .ref 48, .ref 49, .ref 50, .ref 51, .int mcycleMany, .ref 52, .int mwhich, .ref 53, .ref 54, .ref 55, .ref 56, .ref 57, .ref 58, .int mlatest, .int mfirstFound, .int mpartMany, .ref 59, .int mlength, .ref 60, .ref 61, .ref 62, .ref 63, .ref 64])) (g58 : h 58 = (0, .inr (200, .inl mmoved))) (g57 : h 57 = (0, .inr (800, .inl mitems))) (q1 : (x5 ≤ x6) → Q (some (.int (1 : Int32))) h) (q2 : (¬ x5 ≤ x6) → vp_in x6 200) (q3 : (¬ x5 ≤ x6) → vp_in ((((200 : Int32) * x3) + x4) + x6) 800) (q4 : (¬ x5 ≤ x6) → V G mX8_copy b 132 [some (.ref 42), some (.int x1), some (.int x2), some (.int x3), some (.int x4), some (.int x5), some (.int (x6 + (1 : Int32)))] [] (va_up h 57 (0, .inr (800, .inl (upd mitems ((((200 : Int32) * x3) + x4) + x6).toNatClampNeg (mmoved x6.toNatClampNeg))))) Q) : V G mX8_copy b 132 [some (.ref 42), some (.int x1), some (.int x2), some (.int x3), some (.int x4), some (.int x5), some (.int x6)] [] h Q := by
  refine V_iload dX8_copy_132 rfl ?_
  refine V_iload dX8_copy_134 rfl ?_
  refine V_icmp_ge (t := 168) dX8_copy_136 (by decide) (fun z1 => ?_) (fun z1 => ?_)
  ·
    refine V_iconst dX8_copy_168 ic_1 ?_
    exact V_iret dX8_copy_169 rfl (q1 z1)
  ·
    refine V_aload_n dX8_copy_139 rfl rfl ?_
    refine V_get (ci := 8) (j := 21) (C0 := RX8) (T := TX8) (N := 33) dX8_copy_140 rfl g42 (by decide) (by decide) kf_X8_53 rfl ?_
    refine V_sipush dX8_copy_143 sp_200 ?_
    refine V_iload_n dX8_copy_146 rfl rfl ?_
    refine V_imul dX8_copy_147 ?_
    refine V_iload dX8_copy_148 rfl ?_
    refine V_iadd dX8_copy_150 ?_
    refine V_iload dX8_copy_151 rfl ?_
    refine V_iadd dX8_copy_153 ?_
    refine V_aload_n dX8_copy_154 rfl rfl ?_
    refine V_get (ci := 8) (j := 22) (C0 := RX8) (T := TX8) (N := 33) dX8_copy_155 rfl g42 (by decide) (by decide) kf_X8_56 rfl ?_
    refine V_iload dX8_copy_158 rfl ?_
    refine V_iald dX8_copy_160 g58 (q2 z1) ?_
    refine V_iast dX8_copy_161 g57 (q3 z1) ?_
    refine V_inc dX8_copy_162 ic_1 rfl (Nat.le_of_ble_eq_true rfl) ?_
    refine V_goto (t := 132) dX8_copy_165 (by decide) ?_
    exact V_sub (by exact (And.intro rfl (And.intro rfl (And.intro rfl (And.intro rfl (And.intro rfl (And.intro rfl (And.intro rfl True.intro)))))))) (q4 z1)
theorem tX8_copy_4 {G : gx} {b : bg} {h : ah} {Q : Option Value → ah → Prop} {x1 : Int32} {x2 : Int32} {x3 : Int32} {x4 : Int32} {x5 : Int32} {s0 : Int32} (q1 : (s0 = (0 : Int32)) → Q (some (.int (-2 : Int32))) h) (q2 : (¬ s0 = (0 : Int32)) → V G mX8_copy b 8 [some (.ref 42), some (.int x1), some (.int x2), some (.int x3), some (.int x4), some (.int x5)] [.int x3] h Q) : V G mX8_copy b 4 [some (.ref 42), some (.int x1), some (.int x2), some (.int x3), some (.int x4), some (.int x5)] [.int s0] h Q := by
  refine V_if_eq (t := 14) dX8_copy_4 (by decide) (fun z1 => ?_) (fun z1 => ?_)
  ·
    refine V_bipush dX8_copy_14 bp_m2 ?_
    exact V_iret dX8_copy_16 rfl (q1 z1)
  ·
    refine V_iload_n dX8_copy_7 rfl rfl ?_
    exact V_sub (by exact (And.intro rfl (And.intro rfl (And.intro rfl (And.intro rfl (And.intro rfl (And.intro rfl True.intro))))))) (q2 z1)
theorem tX8_copy_11 {G : gx} {b : bg} {h : ah} {Q : Option Value → ah → Prop} {x1 : Int32} {x2 : Int32} {x3 : Int32} {x4 : Int32} {x5 : Int32} {s0 : Int32} {mk : Int32} {mn : Int32} {mall : Int32} {msum : Int32} {mexchanges : Int32} {mcycleMany : Int32} {mwhich : Int32} {mlatest : Int32} {mfirstFound : Int32} {mpartMany : Int32} {mlength : Int32} {mforms : Nat → Int32} (g42 : h 42 = (8, .inl [.int mk, .int mn, .int mall, .ref 43, .ref 44, .ref 45, .ref 46, .int msum, .ref 47, .int mexchanges, .ref 48, .ref 49, .ref 50, .ref 51, .int mcycleMany, .ref 52, .int mwhich, .ref 53, .ref 54, .ref 55, .ref 56, .ref 57, .ref 58, .int mlatest, .int mfirstFound, .int mpartMany, .ref 59, .int mlength, .ref 60, .ref 61, .ref 62, .ref 63, .ref 64])) (g55 : h 55 = (0, .inr (4, .inl mforms))) (q1 : (¬ s0 = (0 : Int32)) → vp_in x1 4) (q2 : (¬ s0 = (0 : Int32)) → ((mforms x1.toNatClampNeg) < (0 : Int32)) → V G mX8_copy b 37 [some (.ref 42), some (.int x1), some (.int x2), some (.int x3), some (.int x4), some (.int x5)] [.int (1 : Int32), .ref 42] h Q) (q3 : (¬ s0 = (0 : Int32)) → (¬ (mforms x1.toNatClampNeg) < (0 : Int32)) → vp_in x3 4) (q4 : (¬ s0 = (0 : Int32)) → (¬ (mforms x1.toNatClampNeg) < (0 : Int32)) → ((0 : Int32) ≤ (mforms x3.toNatClampNeg)) → vp_in x1 4) (q5 : (¬ s0 = (0 : Int32)) → (¬ (mforms x1.toNatClampNeg) < (0 : Int32)) → ((0 : Int32) ≤ (mforms x3.toNatClampNeg)) → vp_in x3 4) (q6 : (¬ s0 = (0 : Int32)) → (¬ (mforms x1.toNatClampNeg) < (0 : Int32)) → ((0 : Int32) ≤ (mforms x3.toNatClampNeg)) → ((mforms x1.toNatClampNeg) = (mforms x3.toNatClampNeg)) → V G mX8_copy b 67 [some (.ref 42), some (.int x1), some (.int x2), some (.int x3), some (.int x4), some (.int x5)] [.int x5, .int x2, .int x1, .ref 42] h Q) (q7 : (¬ s0 = (0 : Int32)) → (¬ (mforms x1.toNatClampNeg) < (0 : Int32)) → ((0 : Int32) ≤ (mforms x3.toNatClampNeg)) → (¬ (mforms x1.toNatClampNeg) = (mforms x3.toNatClampNeg)) → V G mX8_copy b 58 [some (.ref 42), some (.int x1), some (.int x2), some (.int x3), some (.int x4), some (.int x5)] [.int (4 : Int32), .ref 42] h Q) (q8 : (¬ s0 = (0 : Int32)) → (¬ (mforms x1.toNatClampNeg) < (0 : Int32)) → (¬ (0 : Int32) ≤ (mforms x3.toNatClampNeg)) → V G mX8_copy b 37 [some (.ref 42), some (.int x1), some (.int x2), some (.int x3), some (.int x4), some (.int x5)] [.int (1 : Int32), .ref 42] h Q) (q9 : (s0 = (0 : Int32)) → Q (some (.int (-2 : Int32))) h) : V G mX8_copy b 11 [some (.ref 42), some (.int x1), some (.int x2), some (.int x3), some (.int x4), some (.int x5)] [.int s0] h Q := by
  refine V_if_ne (t := 17) dX8_copy_11 (by decide) (fun z1 => ?_) (fun z1 => ?_)
  ·
    refine V_aload_n dX8_copy_17 rfl rfl ?_
    refine V_get (ci := 8) (j := 19) (C0 := RX8) (T := TX8) (N := 33) dX8_copy_18 rfl g42 (by decide) (by decide) kf_X8_47 rfl ?_
    refine V_iload_n dX8_copy_21 rfl rfl ?_
    refine V_iald dX8_copy_22 g55 (q1 z1) ?_
    refine V_if_lt (t := 35) dX8_copy_23 (by decide) (fun z2 => ?_) (fun z2 => ?_)
    ·
      refine V_aload_n dX8_copy_35 rfl rfl ?_
      refine V_iconst dX8_copy_36 ic_1 ?_
      exact V_sub (by exact (And.intro rfl (And.intro rfl (And.intro rfl (And.intro rfl (And.intro rfl (And.intro rfl True.intro))))))) (q2 z1 z2)
    ·
      refine V_aload_n dX8_copy_26 rfl rfl ?_
      refine V_get (ci := 8) (j := 19) (C0 := RX8) (T := TX8) (N := 33) dX8_copy_27 rfl g42 (by decide) (by decide) kf_X8_47 rfl ?_
      refine V_iload_n dX8_copy_30 rfl rfl ?_
      refine V_iald dX8_copy_31 g55 (q3 z1 z2) ?_
      refine V_if_ge (t := 41) dX8_copy_32 (by decide) (fun z3 => ?_) (fun z3 => ?_)
      ·
        refine V_aload_n dX8_copy_41 rfl rfl ?_
        refine V_get (ci := 8) (j := 19) (C0 := RX8) (T := TX8) (N := 33) dX8_copy_42 rfl g42 (by decide) (by decide) kf_X8_47 rfl ?_
        refine V_iload_n dX8_copy_45 rfl rfl ?_
        refine V_iald dX8_copy_46 g55 (q4 z1 z2 z3) ?_
        refine V_aload_n dX8_copy_47 rfl rfl ?_
        refine V_get (ci := 8) (j := 19) (C0 := RX8) (T := TX8) (N := 33) dX8_copy_48 rfl g42 (by decide) (by decide) kf_X8_47 rfl ?_
        refine V_iload_n dX8_copy_51 rfl rfl ?_
        refine V_iald dX8_copy_52 g55 (q5 z1 z2 z3) ?_
        refine V_icmp_eq (t := 62) dX8_copy_53 (by decide) (fun z4 => ?_) (fun z4 => ?_)
        ·
          refine V_aload_n dX8_copy_62 rfl rfl ?_
          refine V_iload_n dX8_copy_63 rfl rfl ?_
          refine V_iload_n dX8_copy_64 rfl rfl ?_
          refine V_iload dX8_copy_65 rfl ?_
          exact V_sub (by exact (And.intro rfl (And.intro rfl (And.intro rfl (And.intro rfl (And.intro rfl (And.intro rfl True.intro))))))) (q6 z1 z2 z3 z4)
        ·
          refine V_aload_n dX8_copy_56 rfl rfl ?_
          refine V_iconst dX8_copy_57 ic_4 ?_
          exact V_sub (by exact (And.intro rfl (And.intro rfl (And.intro rfl (And.intro rfl (And.intro rfl (And.intro rfl True.intro))))))) (q7 z1 z2 z3 z4)
      ·
        refine V_aload_n dX8_copy_35 rfl rfl ?_
        refine V_iconst dX8_copy_36 ic_1 ?_
        exact V_sub (by exact (And.intro rfl (And.intro rfl (And.intro rfl (And.intro rfl (And.intro rfl (And.intro rfl True.intro))))))) (q8 z1 z2 z3)
  ·
    refine V_bipush dX8_copy_14 bp_m2 ?_
    exact V_iret dX8_copy_16 rfl (q9 z1)
theorem tX8_copy_40 {G : gx} {b : bg} {h : ah} {Q : Option Value → ah → Prop} {x1 : Int32} {x2 : Int32} {x3 : Int32} {x4 : Int32} {x5 : Int32} {s0 : Int32} (q1 : Q (some (.int s0)) h) : V G mX8_copy b 40 [some (.ref 42), some (.int x1), some (.int x2), some (.int x3), some (.int x4), some (.int x5)] [.int s0] h Q := by
  exact V_iret dX8_copy_40 rfl (q1)
theorem tX8_copy_61 {G : gx} {b : bg} {h : ah} {Q : Option Value → ah → Prop} {x1 : Int32} {x2 : Int32} {x3 : Int32} {x4 : Int32} {x5 : Int32} {s0 : Int32} (q1 : Q (some (.int s0)) h) : V G mX8_copy b 61 [some (.ref 42), some (.int x1), some (.int x2), some (.int x3), some (.int x4), some (.int x5)] [.int s0] h Q := by
  exact V_iret dX8_copy_61 rfl (q1)
theorem tX8_copy_70 {G : gx} {b : bg} {h : ah} {Q : Option Value → ah → Prop} {x1 : Int32} {x2 : Int32} {x3 : Int32} {x4 : Int32} {x5 : Int32} {s0 : Int32} (q1 : (s0 = (0 : Int32)) → V G mX8_copy b 87 [some (.ref 42), some (.int x1), some (.int x2), some (.int x3), some (.int x4), some (.int x5)] [.int (2 : Int32), .ref 42] h Q) (q2 : (¬ s0 = (0 : Int32)) → V G mX8_copy b 79 [some (.ref 42), some (.int x1), some (.int x2), some (.int x3), some (.int x4), some (.int x5)] [.int x5, .int x4, .int x3, .ref 42] h Q) : V G mX8_copy b 70 [some (.ref 42), some (.int x1), some (.int x2), some (.int x3), some (.int x4), some (.int x5)] [.int s0] h Q := by
  refine V_if_eq (t := 85) dX8_copy_70 (by decide) (fun z1 => ?_) (fun z1 => ?_)
  ·
    refine V_aload_n dX8_copy_85 rfl rfl ?_
    refine V_iconst dX8_copy_86 ic_2 ?_
    exact V_sub (by exact (And.intro rfl (And.intro rfl (And.intro rfl (And.intro rfl (And.intro rfl (And.intro rfl True.intro))))))) (q1 z1)
  ·
    refine V_aload_n dX8_copy_73 rfl rfl ?_
    refine V_iload_n dX8_copy_74 rfl rfl ?_
    refine V_iload dX8_copy_75 rfl ?_
    refine V_iload dX8_copy_77 rfl ?_
    exact V_sub (by exact (And.intro rfl (And.intro rfl (And.intro rfl (And.intro rfl (And.intro rfl (And.intro rfl True.intro))))))) (q2 z1)
theorem tX8_copy_82 {G : gx} {b : bg} {h : ah} {Q : Option Value → ah → Prop} {x1 : Int32} {x2 : Int32} {x3 : Int32} {x4 : Int32} {x5 : Int32} {s0 : Int32} (q1 : (¬ s0 = (0 : Int32)) → V G mX8_copy b 94 [some (.ref 42), some (.int x1), some (.int x2), some (.int x3), some (.int x4), some (.int x5), some (.int (0 : Int32))] [] h Q) (q2 : (s0 = (0 : Int32)) → V G mX8_copy b 87 [some (.ref 42), some (.int x1), some (.int x2), some (.int x3), some (.int x4), some (.int x5)] [.int (2 : Int32), .ref 42] h Q) : V G mX8_copy b 82 [some (.ref 42), some (.int x1), some (.int x2), some (.int x3), some (.int x4), some (.int x5)] [.int s0] h Q := by
  refine V_if_ne (t := 91) dX8_copy_82 (by decide) (fun z1 => ?_) (fun z1 => ?_)
  ·
    refine V_iconst dX8_copy_91 ic_0 ?_
    refine V_istore dX8_copy_92 (Nat.le_of_ble_eq_true rfl) ?_
    exact V_sub (by exact (And.intro rfl (And.intro rfl (And.intro rfl (And.intro rfl (And.intro rfl (And.intro rfl (And.intro rfl True.intro)))))))) (q1 z1)
  ·
    refine V_aload_n dX8_copy_85 rfl rfl ?_
    refine V_iconst dX8_copy_86 ic_2 ?_
    exact V_sub (by exact (And.intro rfl (And.intro rfl (And.intro rfl (And.intro rfl (And.intro rfl (And.intro rfl True.intro))))))) (q2 z1)
theorem tX8_copy_90 {G : gx} {b : bg} {h : ah} {Q : Option Value → ah → Prop} {x1 : Int32} {x2 : Int32} {x3 : Int32} {x4 : Int32} {x5 : Int32} {s0 : Int32} (q1 : Q (some (.int s0)) h) : V G mX8_copy b 90 [some (.ref 42), some (.int x1), some (.int x2), some (.int x3), some (.int x4), some (.int x5)] [.int s0] h Q := by
  exact V_iret dX8_copy_90 rfl (q1)
theorem cX8_copy_1 {G : gx} {d mc ms cc zz d2 mc2 ms2 : Nat} {L : List (Option Value)} {S : List Value} {h : ah} {Q Q2 : Option Value → ah → Prop} {a0 : Value} (hM : Ct G mX8_isTape d2 mc2 ms2 [a0] h Q2) (hdd : d2 < d ∧ d ≤ 9) (hrm : (S.map fun v => v.category).sum ≤ 8) (hf : cc + mc2 ≤ mc ∧ zz + ms2 ≤ ms) (kk : ∀ r h2, Q2 r h2 → V G mX8_copy (d, mc, ms, cc + mc2, zz + ms2) 4 L (r.toList ++ S) h2 Q) : V G mX8_copy (d, mc, ms, cc, zz) 1 L (a0 :: S) h Q := V_callS hM dX8_copy_1 ⟨km_X8_168, kt_X8_isTape⟩ cw_X8_isTape hdd rfl rfl hrm hf kk
theorem cX8_copy_8 {G : gx} {d mc ms cc zz d2 mc2 ms2 : Nat} {L : List (Option Value)} {S : List Value} {h : ah} {Q Q2 : Option Value → ah → Prop} {a0 : Value} (hM : Ct G mX8_isTape d2 mc2 ms2 [a0] h Q2) (hdd : d2 < d ∧ d ≤ 9) (hrm : (S.map fun v => v.category).sum ≤ 8) (hf : cc + mc2 ≤ mc ∧ zz + ms2 ≤ ms) (kk : ∀ r h2, Q2 r h2 → V G mX8_copy (d, mc, ms, cc + mc2, zz + ms2) 11 L (r.toList ++ S) h2 Q) : V G mX8_copy (d, mc, ms, cc, zz) 8 L (a0 :: S) h Q := V_callS hM dX8_copy_8 ⟨km_X8_168, kt_X8_isTape⟩ cw_X8_isTape hdd rfl rfl hrm hf kk
theorem cX8_copy_37 {G : gx} {d mc ms cc zz d2 mc2 ms2 : Nat} {L : List (Option Value)} {S : List Value} {h : ah} {Q Q2 : Option Value → ah → Prop} {k : Nat} {fs : List Value} {a0 : Value} (hM : Ct G mX8_met d2 mc2 ms2 (.ref (k + 2) :: [a0]) h Q2) (hc : h (k + 2) = (8, .inl fs)) (hdd : d2 < d ∧ d ≤ 9) (hrm : (S.map fun v => v.category).sum ≤ 8) (hf : cc + mc2 ≤ mc ∧ zz + ms2 ≤ ms) (kk : ∀ r h2, Q2 r h2 → V G mX8_copy (d, mc, ms, cc + mc2, zz + ms2) 40 L (r.toList ++ S) h2 Q) : V G mX8_copy (d, mc, ms, cc, zz) 37 L (a0 :: .ref (k + 2) :: S) h Q := V_callV (ci := 8) (T := TX8) (N := 33) hM dX8_copy_37 ⟨km_X8_171, ki_X8_met, ks_X8_met⟩ cw_X8_met rfl hc (by decide) hdd rfl rfl hrm hf kk
theorem cX8_copy_58 {G : gx} {d mc ms cc zz d2 mc2 ms2 : Nat} {L : List (Option Value)} {S : List Value} {h : ah} {Q Q2 : Option Value → ah → Prop} {k : Nat} {fs : List Value} {a0 : Value} (hM : Ct G mX8_met d2 mc2 ms2 (.ref (k + 2) :: [a0]) h Q2) (hc : h (k + 2) = (8, .inl fs)) (hdd : d2 < d ∧ d ≤ 9) (hrm : (S.map fun v => v.category).sum ≤ 8) (hf : cc + mc2 ≤ mc ∧ zz + ms2 ≤ ms) (kk : ∀ r h2, Q2 r h2 → V G mX8_copy (d, mc, ms, cc + mc2, zz + ms2) 61 L (r.toList ++ S) h2 Q) : V G mX8_copy (d, mc, ms, cc, zz) 58 L (a0 :: .ref (k + 2) :: S) h Q := V_callV (ci := 8) (T := TX8) (N := 33) hM dX8_copy_58 ⟨km_X8_171, ki_X8_met, ks_X8_met⟩ cw_X8_met rfl hc (by decide) hdd rfl rfl hrm hf kk
theorem cX8_copy_67 {G : gx} {d mc ms cc zz d2 mc2 ms2 : Nat} {L : List (Option Value)} {S : List Value} {h : ah} {Q Q2 : Option Value → ah → Prop} {k : Nat} {fs : List Value} {a0 a1 a2 : Value} (hM : Ct G mX8_isWithin d2 mc2 ms2 (.ref (k + 2) :: [a0, a1, a2]) h Q2) (hc : h (k + 2) = (8, .inl fs)) (hdd : d2 < d ∧ d ≤ 9) (hrm : (S.map fun v => v.category).sum ≤ 8) (hf : cc + mc2 ≤ mc ∧ zz + ms2 ≤ ms) (kk : ∀ r h2, Q2 r h2 → V G mX8_copy (d, mc, ms, cc + mc2, zz + ms2) 70 L (r.toList ++ S) h2 Q) : V G mX8_copy (d, mc, ms, cc, zz) 67 L (a2 :: a1 :: a0 :: .ref (k + 2) :: S) h Q := V_callV (ci := 8) (T := TX8) (N := 33) hM dX8_copy_67 ⟨km_X8_180, ki_X8_isWithin, ks_X8_isWithin⟩ cw_X8_isWithin rfl hc (by decide) hdd rfl rfl hrm hf kk
theorem cX8_copy_79 {G : gx} {d mc ms cc zz d2 mc2 ms2 : Nat} {L : List (Option Value)} {S : List Value} {h : ah} {Q Q2 : Option Value → ah → Prop} {k : Nat} {fs : List Value} {a0 a1 a2 : Value} (hM : Ct G mX8_isWithin d2 mc2 ms2 (.ref (k + 2) :: [a0, a1, a2]) h Q2) (hc : h (k + 2) = (8, .inl fs)) (hdd : d2 < d ∧ d ≤ 9) (hrm : (S.map fun v => v.category).sum ≤ 8) (hf : cc + mc2 ≤ mc ∧ zz + ms2 ≤ ms) (kk : ∀ r h2, Q2 r h2 → V G mX8_copy (d, mc, ms, cc + mc2, zz + ms2) 82 L (r.toList ++ S) h2 Q) : V G mX8_copy (d, mc, ms, cc, zz) 79 L (a2 :: a1 :: a0 :: .ref (k + 2) :: S) h Q := V_callV (ci := 8) (T := TX8) (N := 33) hM dX8_copy_79 ⟨km_X8_180, ki_X8_isWithin, ks_X8_isWithin⟩ cw_X8_isWithin rfl hc (by decide) hdd rfl rfl hrm hf kk
theorem cX8_copy_87 {G : gx} {d mc ms cc zz d2 mc2 ms2 : Nat} {L : List (Option Value)} {S : List Value} {h : ah} {Q Q2 : Option Value → ah → Prop} {k : Nat} {fs : List Value} {a0 : Value} (hM : Ct G mX8_met d2 mc2 ms2 (.ref (k + 2) :: [a0]) h Q2) (hc : h (k + 2) = (8, .inl fs)) (hdd : d2 < d ∧ d ≤ 9) (hrm : (S.map fun v => v.category).sum ≤ 8) (hf : cc + mc2 ≤ mc ∧ zz + ms2 ≤ ms) (kk : ∀ r h2, Q2 r h2 → V G mX8_copy (d, mc, ms, cc + mc2, zz + ms2) 90 L (r.toList ++ S) h2 Q) : V G mX8_copy (d, mc, ms, cc, zz) 87 L (a0 :: .ref (k + 2) :: S) h Q := V_callV (ci := 8) (T := TX8) (N := 33) hM dX8_copy_87 ⟨km_X8_171, ki_X8_met, ks_X8_met⟩ cw_X8_met rfl hc (by decide) hdd rfl rfl hrm hf kk
theorem tX8_print_0 {G : gx} {b : bg} {h : ah} {Q : Option Value → ah → Prop} {x1 : Int32} {x2 : Int32} {x3 : Int32} {x4 : Int32} (q1 : V G mX8_print b 1 [some (.ref 42), some (.int x1), some (.int x2), some (.int x3), some (.int x4)] [.int x1] h Q) : V G mX8_print b 0 [some (.ref 42), some (.int x1), some (.int x2), some (.int x3), some (.int x4)] [] h Q := by
  refine V_iload_n dX8_print_0 rfl rfl ?_
  exact V_sub (by exact (And.intro rfl (And.intro rfl (And.intro rfl (And.intro rfl (And.intro rfl True.intro)))))) (q1)
theorem tX8_print_77 {G : gx} {b : bg} {h : ah} {Q : Option Value → ah → Prop} {x1 : Int32} {x2 : Int32} {x3 : Int32} {x4 : Int32} {x5 : Int32} {mk : Int32} {mn : Int32} {mall : Int32} {msum : Int32} {mexchanges : Int32} {mcycleMany : Int32} {mwhich : Int32} {mlatest : Int32} {mfirstFound : Int32} {mpartMany : Int32} {mlength : Int32} {mround : Nat → Int32} {mitems : Nat → Int32} (g42 : h 42 = (8, .inl [.int mk, .int mn, .int mall, .ref 43, .ref 44, .ref 45, .ref 46, .int msum, .ref 47, .int mexchanges, .ref 48, .ref 49, .ref 50, .ref 51, .int mcycleMany, .ref 52, .int mwhich, .ref 53, .ref 54, .ref 55, .ref 56, .ref 57, .ref 58, .int mlatest, .int mfirstFound, .int mpartMany, .ref 59, .int mlength, .ref 60, .ref 61, .ref 62, .ref 63, .ref 64])) (g53 : h 53 = (0, .inr (20000, .inl mround))) (g57 : h 57 = (0, .inr (800, .inl mitems))) (q1 : (x4 ≤ x5) → Q (some (.int x4)) h) (q2 : (¬ x4 ≤ x5) → ¬ mall = 0) (q3 : (¬ x4 ≤ x5) → vp_in ((x3 + x5) - (x3 + x5) / mall * mall) 20000) (q4 : (¬ x4 ≤ x5) → vp_in ((((200 : Int32) * x1) + x2) + x5) 800) (q5 : (¬ x4 ≤ x5) → V G mX8_print b 77 [some (.ref 42), some (.int x1), some (.int x2), some (.int x3), some (.int x4), some (.int (x5 + (1 : Int32)))] [] (va_up h 57 (0, .inr (800, .inl (upd mitems ((((200 : Int32) * x1) + x2) + x5).toNatClampNeg (mround ((x3 + x5) - (x3 + x5) / mall * mall).toNatClampNeg))))) Q) : V G mX8_print b 77 [some (.ref 42), some (.int x1), some (.int x2), some (.int x3), some (.int x4), some (.int x5)] [] h Q := by
  refine V_iload dX8_print_77 rfl ?_
  refine V_iload dX8_print_79 rfl ?_
  refine V_icmp_ge (t := 119) dX8_print_81 (by decide) (fun z1 => ?_) (fun z1 => ?_)
  ·
    refine V_iload dX8_print_119 rfl ?_
    exact V_iret dX8_print_121 rfl (q1 z1)
  ·
    refine V_aload_n dX8_print_84 rfl rfl ?_
    refine V_get (ci := 8) (j := 21) (C0 := RX8) (T := TX8) (N := 33) dX8_print_85 rfl g42 (by decide) (by decide) kf_X8_53 rfl ?_
    refine V_sipush dX8_print_88 sp_200 ?_
    refine V_iload_n dX8_print_91 rfl rfl ?_
    refine V_imul dX8_print_92 ?_
    refine V_iload_n dX8_print_93 rfl rfl ?_
    refine V_iadd dX8_print_94 ?_
    refine V_iload dX8_print_95 rfl ?_
    refine V_iadd dX8_print_97 ?_
    refine V_aload_n dX8_print_98 rfl rfl ?_
    refine V_get (ci := 8) (j := 17) (C0 := RX8) (T := TX8) (N := 33) dX8_print_99 rfl g42 (by decide) (by decide) kf_X8_41 rfl ?_
    refine V_iload_n dX8_print_102 rfl rfl ?_
    refine V_iload dX8_print_103 rfl ?_
    refine V_iadd dX8_print_105 ?_
    refine V_aload_n dX8_print_106 rfl rfl ?_
    refine V_get (ci := 8) (j := 2) (C0 := RX8) (T := TX8) (N := 33) dX8_print_107 rfl g42 (by decide) (by decide) kf_X8_99 rfl ?_
    refine V_irem dX8_print_110 (q2 z1) ?_
    refine V_iald dX8_print_111 g53 (q3 z1) ?_
    refine V_iast dX8_print_112 g57 (q4 z1) ?_
    refine V_inc dX8_print_113 ic_1 rfl (Nat.le_of_ble_eq_true rfl) ?_
    refine V_goto (t := 77) dX8_print_116 (by decide) ?_
    exact V_sub (by exact (And.intro rfl (And.intro rfl (And.intro rfl (And.intro rfl (And.intro rfl (And.intro rfl True.intro))))))) (q5 z1)
theorem tX8_print_4 {G : gx} {b : bg} {h : ah} {Q : Option Value → ah → Prop} {x1 : Int32} {x2 : Int32} {x3 : Int32} {x4 : Int32} {s0 : Int32} {mk : Int32} {mn : Int32} {mall : Int32} {msum : Int32} {mexchanges : Int32} {mcycleMany : Int32} {mwhich : Int32} {mlatest : Int32} {mfirstFound : Int32} {mpartMany : Int32} {mlength : Int32} (g42 : h 42 = (8, .inl [.int mk, .int mn, .int mall, .ref 43, .ref 44, .ref 45, .ref 46, .int msum, .ref 47, .int mexchanges, .ref 48, .ref 49, .ref 50, .ref 51, .int mcycleMany, .ref 52, .int mwhich, .ref 53, .ref 54, .ref 55, .ref 56, .ref 57, .ref 58, .int mlatest, .int mfirstFound, .int mpartMany, .ref 59, .int mlength, .ref 60, .ref 61, .ref 62, .ref 63, .ref 64])) (q1 : (s0 = (0 : Int32)) → Q (some (.int (-2 : Int32))) h) (q2 : (¬ s0 = (0 : Int32)) → V G mX8_print b 17 [some (.ref 42), some (.int x1), some (.int x2), some (.int x3), some (.int x4)] [.long ((mall - (1 : Int32)).toInt64), .long (0 : Int64), .long (x3.toInt64)] h Q) : V G mX8_print b 4 [some (.ref 42), some (.int x1), some (.int x2), some (.int x3), some (.int x4)] [.int s0] h Q := by
  refine V_if_eq (t := 28) dX8_print_4 (by decide) (fun z1 => ?_) (fun z1 => ?_)
  ·
    refine V_bipush dX8_print_28 bp_m2 ?_
    exact V_iret dX8_print_30 rfl (q1 z1)
  ·
    refine V_iload_n dX8_print_7 rfl rfl ?_
    refine V_i2l dX8_print_8 ?_
    refine V_lconst dX8_print_9 lc_0 ?_
    refine V_aload_n dX8_print_10 rfl rfl ?_
    refine V_get (ci := 8) (j := 2) (C0 := RX8) (T := TX8) (N := 33) dX8_print_11 rfl g42 (by decide) (by decide) kf_X8_99 rfl ?_
    refine V_iconst dX8_print_14 ic_1 ?_
    refine V_isub dX8_print_15 ?_
    refine V_i2l dX8_print_16 ?_
    exact V_sub (by exact (And.intro rfl (And.intro rfl (And.intro rfl (And.intro rfl (And.intro rfl True.intro)))))) (q2 z1)
theorem tX8_print_20 {G : gx} {b : bg} {h : ah} {Q : Option Value → ah → Prop} {x1 : Int32} {x2 : Int32} {x3 : Int32} {x4 : Int32} {s0 : Int32} {mk : Int32} {mn : Int32} {mall : Int32} {msum : Int32} {mexchanges : Int32} {mcycleMany : Int32} {mwhich : Int32} {mlatest : Int32} {mfirstFound : Int32} {mpartMany : Int32} {mlength : Int32} {mforms : Nat → Int32} (g42 : h 42 = (8, .inl [.int mk, .int mn, .int mall, .ref 43, .ref 44, .ref 45, .ref 46, .int msum, .ref 47, .int mexchanges, .ref 48, .ref 49, .ref 50, .ref 51, .int mcycleMany, .ref 52, .int mwhich, .ref 53, .ref 54, .ref 55, .ref 56, .ref 57, .ref 58, .int mlatest, .int mfirstFound, .int mpartMany, .ref 59, .int mlength, .ref 60, .ref 61, .ref 62, .ref 63, .ref 64])) (g55 : h 55 = (0, .inr (4, .inl mforms))) (q1 : (s0 = (0 : Int32)) → Q (some (.int (-2 : Int32))) h) (q2 : (¬ s0 = (0 : Int32)) → ((0 : Int32) ≤ x4) → (¬ mwhich = (-1 : Int32)) → vp_in x1 4) (q3 : (¬ s0 = (0 : Int32)) → ((0 : Int32) ≤ x4) → (¬ mwhich = (-1 : Int32)) → ((0 : Int32) ≤ (mforms x1.toNatClampNeg)) → V G mX8_print b 62 [some (.ref 42), some (.int x1), some (.int x2), some (.int x3), some (.int x4)] [.int x4, .int x2, .int x1, .ref 42] h Q) (q4 : (¬ s0 = (0 : Int32)) → ((0 : Int32) ≤ x4) → (¬ mwhich = (-1 : Int32)) → (¬ (0 : Int32) ≤ (mforms x1.toNatClampNeg)) → V G mX8_print b 53 [some (.ref 42), some (.int x1), some (.int x2), some (.int x3), some (.int x4)] [.int (1 : Int32), .ref 42] h Q) (q5 : (¬ s0 = (0 : Int32)) → ((0 : Int32) ≤ x4) → (mwhich = (-1 : Int32)) → Q (some (.int (-3 : Int32))) h) (q6 : (¬ s0 = (0 : Int32)) → (¬ (0 : Int32) ≤ x4) → Q (some (.int (-2 : Int32))) h) : V G mX8_print b 20 [some (.ref 42), some (.int x1), some (.int x2), some (.int x3), some (.int x4)] [.int s0] h Q := by
  refine V_if_eq (t := 28) dX8_print_20 (by decide) (fun z1 => ?_) (fun z1 => ?_)
  ·
    refine V_bipush dX8_print_28 bp_m2 ?_
    exact V_iret dX8_print_30 rfl (q1 z1)
  ·
    refine V_iload dX8_print_23 rfl ?_
    refine V_if_ge (t := 31) dX8_print_25 (by decide) (fun z2 => ?_) (fun z2 => ?_)
    ·
      refine V_aload_n dX8_print_31 rfl rfl ?_
      refine V_get (ci := 8) (j := 16) (C0 := RX8) (T := TX8) (N := 33) dX8_print_32 rfl g42 (by decide) (by decide) kf_X8_112 rfl ?_
      refine V_iconst dX8_print_35 ic_m1 ?_
      refine V_icmp_ne (t := 42) dX8_print_36 (by decide) (fun z3 => ?_) (fun z3 => ?_)
      ·
        refine V_aload_n dX8_print_42 rfl rfl ?_
        refine V_get (ci := 8) (j := 19) (C0 := RX8) (T := TX8) (N := 33) dX8_print_43 rfl g42 (by decide) (by decide) kf_X8_47 rfl ?_
        refine V_iload_n dX8_print_46 rfl rfl ?_
        refine V_iald dX8_print_47 g55 (q2 z1 z2 z3) ?_
        refine V_if_ge (t := 57) dX8_print_48 (by decide) (fun z4 => ?_) (fun z4 => ?_)
        ·
          refine V_aload_n dX8_print_57 rfl rfl ?_
          refine V_iload_n dX8_print_58 rfl rfl ?_
          refine V_iload_n dX8_print_59 rfl rfl ?_
          refine V_iload dX8_print_60 rfl ?_
          exact V_sub (by exact (And.intro rfl (And.intro rfl (And.intro rfl (And.intro rfl (And.intro rfl True.intro)))))) (q3 z1 z2 z3 z4)
        ·
          refine V_aload_n dX8_print_51 rfl rfl ?_
          refine V_iconst dX8_print_52 ic_1 ?_
          exact V_sub (by exact (And.intro rfl (And.intro rfl (And.intro rfl (And.intro rfl (And.intro rfl True.intro)))))) (q4 z1 z2 z3 z4)
      ·
        refine V_bipush dX8_print_39 bp_m3 ?_
        exact V_iret dX8_print_41 rfl (q5 z1 z2 z3)
    ·
      refine V_bipush dX8_print_28 bp_m2 ?_
      exact V_iret dX8_print_30 rfl (q6 z1 z2)
theorem tX8_print_56 {G : gx} {b : bg} {h : ah} {Q : Option Value → ah → Prop} {x1 : Int32} {x2 : Int32} {x3 : Int32} {x4 : Int32} {s0 : Int32} (q1 : Q (some (.int s0)) h) : V G mX8_print b 56 [some (.ref 42), some (.int x1), some (.int x2), some (.int x3), some (.int x4)] [.int s0] h Q := by
  exact V_iret dX8_print_56 rfl (q1)
theorem tX8_print_65 {G : gx} {b : bg} {h : ah} {Q : Option Value → ah → Prop} {x1 : Int32} {x2 : Int32} {x3 : Int32} {x4 : Int32} {s0 : Int32} (q1 : (¬ s0 = (0 : Int32)) → V G mX8_print b 77 [some (.ref 42), some (.int x1), some (.int x2), some (.int x3), some (.int x4), some (.int (0 : Int32))] [] h Q) (q2 : (s0 = (0 : Int32)) → V G mX8_print b 70 [some (.ref 42), some (.int x1), some (.int x2), some (.int x3), some (.int x4)] [.int (2 : Int32), .ref 42] h Q) : V G mX8_print b 65 [some (.ref 42), some (.int x1), some (.int x2), some (.int x3), some (.int x4)] [.int s0] h Q := by
  refine V_if_ne (t := 74) dX8_print_65 (by decide) (fun z1 => ?_) (fun z1 => ?_)
  ·
    refine V_iconst dX8_print_74 ic_0 ?_
    refine V_istore dX8_print_75 (Nat.le_of_ble_eq_true rfl) ?_
    exact V_sub (by exact (And.intro rfl (And.intro rfl (And.intro rfl (And.intro rfl (And.intro rfl (And.intro rfl True.intro))))))) (q1 z1)
  ·
    refine V_aload_n dX8_print_68 rfl rfl ?_
    refine V_iconst dX8_print_69 ic_2 ?_
    exact V_sub (by exact (And.intro rfl (And.intro rfl (And.intro rfl (And.intro rfl (And.intro rfl True.intro)))))) (q2 z1)
theorem tX8_print_73 {G : gx} {b : bg} {h : ah} {Q : Option Value → ah → Prop} {x1 : Int32} {x2 : Int32} {x3 : Int32} {x4 : Int32} {s0 : Int32} (q1 : Q (some (.int s0)) h) : V G mX8_print b 73 [some (.ref 42), some (.int x1), some (.int x2), some (.int x3), some (.int x4)] [.int s0] h Q := by
  exact V_iret dX8_print_73 rfl (q1)
theorem cX8_print_1 {G : gx} {d mc ms cc zz d2 mc2 ms2 : Nat} {L : List (Option Value)} {S : List Value} {h : ah} {Q Q2 : Option Value → ah → Prop} {a0 : Value} (hM : Ct G mX8_isTape d2 mc2 ms2 [a0] h Q2) (hdd : d2 < d ∧ d ≤ 9) (hrm : (S.map fun v => v.category).sum ≤ 8) (hf : cc + mc2 ≤ mc ∧ zz + ms2 ≤ ms) (kk : ∀ r h2, Q2 r h2 → V G mX8_print (d, mc, ms, cc + mc2, zz + ms2) 4 L (r.toList ++ S) h2 Q) : V G mX8_print (d, mc, ms, cc, zz) 1 L (a0 :: S) h Q := V_callS hM dX8_print_1 ⟨km_X8_168, kt_X8_isTape⟩ cw_X8_isTape hdd rfl rfl hrm hf kk
theorem cX8_print_17 {G : gx} {d mc ms cc zz d2 mc2 ms2 : Nat} {L : List (Option Value)} {S : List Value} {h : ah} {Q Q2 : Option Value → ah → Prop} {a0 a1 a2 : Value} (hM : Ct G mX8_in d2 mc2 ms2 [a0, a1, a2] h Q2) (hdd : d2 < d ∧ d ≤ 9) (hrm : (S.map fun v => v.category).sum ≤ 8) (hf : cc + mc2 ≤ mc ∧ zz + ms2 ≤ ms) (kk : ∀ r h2, Q2 r h2 → V G mX8_print (d, mc, ms, cc + mc2, zz + ms2) 20 L (r.toList ++ S) h2 Q) : V G mX8_print (d, mc, ms, cc, zz) 17 L (a2 :: a1 :: a0 :: S) h Q := V_callS hM dX8_print_17 ⟨km_X8_86, kt_X8_in⟩ cw_X8_in hdd rfl rfl hrm hf kk
theorem cX8_print_53 {G : gx} {d mc ms cc zz d2 mc2 ms2 : Nat} {L : List (Option Value)} {S : List Value} {h : ah} {Q Q2 : Option Value → ah → Prop} {k : Nat} {fs : List Value} {a0 : Value} (hM : Ct G mX8_met d2 mc2 ms2 (.ref (k + 2) :: [a0]) h Q2) (hc : h (k + 2) = (8, .inl fs)) (hdd : d2 < d ∧ d ≤ 9) (hrm : (S.map fun v => v.category).sum ≤ 8) (hf : cc + mc2 ≤ mc ∧ zz + ms2 ≤ ms) (kk : ∀ r h2, Q2 r h2 → V G mX8_print (d, mc, ms, cc + mc2, zz + ms2) 56 L (r.toList ++ S) h2 Q) : V G mX8_print (d, mc, ms, cc, zz) 53 L (a0 :: .ref (k + 2) :: S) h Q := V_callV (ci := 8) (T := TX8) (N := 33) hM dX8_print_53 ⟨km_X8_171, ki_X8_met, ks_X8_met⟩ cw_X8_met rfl hc (by decide) hdd rfl rfl hrm hf kk
theorem cX8_print_62 {G : gx} {d mc ms cc zz d2 mc2 ms2 : Nat} {L : List (Option Value)} {S : List Value} {h : ah} {Q Q2 : Option Value → ah → Prop} {k : Nat} {fs : List Value} {a0 a1 a2 : Value} (hM : Ct G mX8_isWithin d2 mc2 ms2 (.ref (k + 2) :: [a0, a1, a2]) h Q2) (hc : h (k + 2) = (8, .inl fs)) (hdd : d2 < d ∧ d ≤ 9) (hrm : (S.map fun v => v.category).sum ≤ 8) (hf : cc + mc2 ≤ mc ∧ zz + ms2 ≤ ms) (kk : ∀ r h2, Q2 r h2 → V G mX8_print (d, mc, ms, cc + mc2, zz + ms2) 65 L (r.toList ++ S) h2 Q) : V G mX8_print (d, mc, ms, cc, zz) 62 L (a2 :: a1 :: a0 :: .ref (k + 2) :: S) h Q := V_callV (ci := 8) (T := TX8) (N := 33) hM dX8_print_62 ⟨km_X8_180, ki_X8_isWithin, ks_X8_isWithin⟩ cw_X8_isWithin rfl hc (by decide) hdd rfl rfl hrm hf kk
theorem cX8_print_70 {G : gx} {d mc ms cc zz d2 mc2 ms2 : Nat} {L : List (Option Value)} {S : List Value} {h : ah} {Q Q2 : Option Value → ah → Prop} {k : Nat} {fs : List Value} {a0 : Value} (hM : Ct G mX8_met d2 mc2 ms2 (.ref (k + 2) :: [a0]) h Q2) (hc : h (k + 2) = (8, .inl fs)) (hdd : d2 < d ∧ d ≤ 9) (hrm : (S.map fun v => v.category).sum ≤ 8) (hf : cc + mc2 ≤ mc ∧ zz + ms2 ≤ ms) (kk : ∀ r h2, Q2 r h2 → V G mX8_print (d, mc, ms, cc + mc2, zz + ms2) 73 L (r.toList ++ S) h2 Q) : V G mX8_print (d, mc, ms, cc, zz) 70 L (a0 :: .ref (k + 2) :: S) h Q := V_callV (ci := 8) (T := TX8) (N := 33) hM dX8_print_70 ⟨km_X8_171, ki_X8_met, ks_X8_met⟩ cw_X8_met rfl hc (by decide) hdd rfl rfl hrm hf kk
theorem tX8_find_0 {G : gx} {b : bg} {h : ah} {Q : Option Value → ah → Prop} {x1 : Int32} {x2 : Int32} {x3 : Int32} {x4 : Int32} (q1 : V G mX8_find b 1 [some (.ref 42), some (.int x1), some (.int x2), some (.int x3), some (.int x4)] [.int x1] h Q) : V G mX8_find b 0 [some (.ref 42), some (.int x1), some (.int x2), some (.int x3), some (.int x4)] [] h Q := by
  refine V_iload_n dX8_find_0 rfl rfl ?_
  exact V_sub (by exact (And.intro rfl (And.intro rfl (And.intro rfl (And.intro rfl (And.intro rfl True.intro)))))) (q1)
theorem tX8_find_83 {G : gx} {b : bg} {h : ah} {Q : Option Value → ah → Prop} {x1 : Int32} {x2 : Int32} {x3 : Int32} {x4 : Int32} {x5 : Int32} {x6 : Int32} {mk : Int32} {mn : Int32} {mall : Int32} {msum : Int32} {mexchanges : Int32} {mcycleMany : Int32} {mwhich : Int32} {mlatest : Int32} {mfirstFound : Int32} {mpartMany : Int32} {mlength : Int32} (g42 : h 42 = (8, .inl [.int mk, .int mn, .int mall, .ref 43, .ref 44, .ref 45, .ref 46, .int msum, .ref 47, .int mexchanges, .ref 48, .ref 49, .ref 50, .ref 51, .int mcycleMany, .ref 52, .int mwhich, .ref 53, .ref 54, .ref 55, .ref 56, .ref 57, .ref 58, .int mlatest, .int mfirstFound, .int mpartMany, .ref 59, .int mlength, .ref 60, .ref 61, .ref 62, .ref 63, .ref 64])) (q1 : (mall ≤ x6) → Q (some (.int x5)) h) (q2 : (¬ mall ≤ x6) → V G mX8_find b 98 [some (.ref 42), some (.int x1), some (.int x2), some (.int x3), some (.int x4), some (.int x5), some (.int x6), some (.int (0 : Int32)), some (.int (0 : Int32))] [] h Q) : V G mX8_find b 83 [some (.ref 42), some (.int x1), some (.int x2), some (.int x3), some (.int x4), some (.int x5), some (.int x6)] [] h Q := by
  refine V_iload dX8_find_83 rfl ?_
  refine V_aload_n dX8_find_85 rfl rfl ?_
  refine V_get (ci := 8) (j := 2) (C0 := RX8) (T := TX8) (N := 33) dX8_find_86 rfl g42 (by decide) (by decide) kf_X8_99 rfl ?_
  refine V_icmp_ge (t := 208) dX8_find_89 (by decide) (fun z1 => ?_) (fun z1 => ?_)
  ·
    refine V_iload dX8_find_208 rfl ?_
    exact V_iret dX8_find_210 rfl (q1 z1)
  ·
    refine V_iconst dX8_find_92 ic_0 ?_
    refine V_istore dX8_find_93 (Nat.le_of_ble_eq_true rfl) ?_
    refine V_iconst dX8_find_95 ic_0 ?_
    refine V_istore dX8_find_96 (Nat.le_of_ble_eq_true rfl) ?_
    exact V_sub (by exact (And.intro rfl (And.intro rfl (And.intro rfl (And.intro rfl (And.intro rfl (And.intro rfl (And.intro rfl (And.intro rfl (And.intro rfl True.intro)))))))))) (q2 z1)
theorem tX8_find_98 {G : gx} {b : bg} {h : ah} {Q : Option Value → ah → Prop} {x1 : Int32} {x2 : Int32} {x3 : Int32} {x4 : Int32} {x5 : Int32} {x6 : Int32} {x7 : Int32} {x8 : Int32} {mk : Int32} {mn : Int32} {mall : Int32} {msum : Int32} {mexchanges : Int32} {mcycleMany : Int32} {mwhich : Int32} {mlatest : Int32} {mfirstFound : Int32} {mpartMany : Int32} {mlength : Int32} {mitems : Nat → Int32} (g42 : h 42 = (8, .inl [.int mk, .int mn, .int mall, .ref 43, .ref 44, .ref 45, .ref 46, .int msum, .ref 47, .int mexchanges, .ref 48, .ref 49, .ref 50, .ref 51, .int mcycleMany, .ref 52, .int mwhich, .ref 53, .ref 54, .ref 55, .ref 56, .ref 57, .ref 58, .int mlatest, .int mfirstFound, .int mpartMany, .ref 59, .int mlength, .ref 60, .ref 61, .ref 62, .ref 63, .ref 64])) (g57 : h 57 = (0, .inr (800, .inl mitems))) (q1 : (x3 ≤ x8) → (x4 < x7) → V G mX8_find b 83 [some (.ref 42), some (.int x1), some (.int x2), some (.int x3), some (.int x4), some (.int x5), some (.int (x6 + (1 : Int32)))] [] h Q) (q2 : (x3 ≤ x8) → (¬ x4 < x7) → (¬ x5 = (0 : Int32)) → V G mX8_find b 83 [some (.ref 42), some (.int x1), some (.int x2), some (.int x3), some (.int x4), some (.int (x5 + (1 : Int32))), some (.int (x6 + (1 : Int32)))] [] (va_up h 42 (8, .inl [.int mk, .int mn, .int mall, .ref 43, .ref 44, .ref 45, .ref 46, .int msum, .ref 47, .int mexchanges, .ref 48, .ref 49, .ref 50, .ref 51, .int mcycleMany, .ref 52, .int mwhich, .ref 53, .ref 54, .ref 55, .ref 56, .ref 57, .ref 58, .int mlatest, .int mfirstFound, .int mpartMany, .ref 59, .int mlength, .ref 60, .ref 61, .ref 62, .ref 63, .ref 64])) Q) (q3 : (x3 ≤ x8) → (¬ x4 < x7) → (x5 = (0 : Int32)) → V G mX8_find b 83 [some (.ref 42), some (.int x1), some (.int x2), some (.int x3), some (.int x4), some (.int (x5 + (1 : Int32))), some (.int (x6 + (1 : Int32)))] [] (va_up h 42 (8, .inl [.int mk, .int mn, .int mall, .ref 43, .ref 44, .ref 45, .ref 46, .int msum, .ref 47, .int mexchanges, .ref 48, .ref 49, .ref 50, .ref 51, .int mcycleMany, .ref 52, .int mwhich, .ref 53, .ref 54, .ref 55, .ref 56, .ref 57, .ref 58, .int mlatest, .int x6, .int mpartMany, .ref 59, .int mlength, .ref 60, .ref 61, .ref 62, .ref 63, .ref 64])) Q) (q4 : (¬ x3 ≤ x8) → vp_in ((((200 : Int32) * x1) + x2) + x8) 800) (q5 : (¬ x3 ≤ x8) → V G mX8_find b 134 [some (.ref 42), some (.int x1), some (.int x2), some (.int x3), some (.int x4), some (.int x5), some (.int x6), some (.int x7), some (.int x8), some (.int (mitems ((((200 : Int32) * x1) + x2) + x8).toNatClampNeg))] [.long ((mk - (1 : Int32)).toInt64), .long (0 : Int64), .long ((mitems ((((200 : Int32) * x1) + x2) + x8).toNatClampNeg).toInt64), .int x7] h Q) : V G mX8_find b 98 [some (.ref 42), some (.int x1), some (.int x2), some (.int x3), some (.int x4), some (.int x5), some (.int x6), some (.int x7), some (.int x8)] [] h Q := by
  refine V_iload dX8_find_98 rfl ?_
  refine V_iload_n dX8_find_100 rfl rfl ?_
  refine V_icmp_ge (t := 174) dX8_find_101 (by decide) (fun z1 => ?_) (fun z1 => ?_)
  ·
    refine V_iload dX8_find_174 rfl ?_
    refine V_iload dX8_find_176 rfl ?_
    refine V_icmp_gt (t := 202) dX8_find_178 (by decide) (fun z2 => ?_) (fun z2 => ?_)
    ·
      refine V_inc dX8_find_202 ic_1 rfl (Nat.le_of_ble_eq_true rfl) ?_
      refine V_goto (t := 83) dX8_find_205 (by decide) ?_
      exact V_sub (by exact (And.intro rfl (And.intro rfl (And.intro rfl (And.intro rfl (And.intro rfl (And.intro rfl (And.intro rfl True.intro)))))))) (q1 z1 z2)
    ·
      refine V_aload_n dX8_find_181 rfl rfl ?_
      refine V_iload dX8_find_182 rfl ?_
      refine V_if_ne (t := 192) dX8_find_184 (by decide) (fun z3 => ?_) (fun z3 => ?_)
      ·
        refine V_aload_n dX8_find_192 rfl rfl ?_
        refine V_get (ci := 8) (j := 24) (C0 := RX8) (T := TX8) (N := 33) dX8_find_193 rfl g42 (by decide) (by decide) kf_X8_115 rfl ?_
        refine V_put (ci := 8) (j := 24) (C0 := RX8) (T := TX8) (N := 33) (ty := .int) dX8_find_196 rfl g42 (by decide) (by decide) kf_X8_115 rfl (by decide +kernel) rfl rfl (Nat.le_of_ble_eq_true rfl) ?_
        refine V_inc dX8_find_199 ic_1 rfl (Nat.le_of_ble_eq_true rfl) ?_
        refine V_inc dX8_find_202 ic_1 rfl (Nat.le_of_ble_eq_true rfl) ?_
        refine V_goto (t := 83) dX8_find_205 (by decide) ?_
        exact V_sub (by exact (And.intro rfl (And.intro rfl (And.intro rfl (And.intro rfl (And.intro rfl (And.intro rfl (And.intro rfl True.intro)))))))) (q2 z1 z2 z3)
      ·
        refine V_iload dX8_find_187 rfl ?_
        refine V_goto (t := 196) dX8_find_189 (by decide) ?_
        refine V_put (ci := 8) (j := 24) (C0 := RX8) (T := TX8) (N := 33) (ty := .int) dX8_find_196 rfl g42 (by decide) (by decide) kf_X8_115 rfl (by decide +kernel) rfl rfl (Nat.le_of_ble_eq_true rfl) ?_
        refine V_inc dX8_find_199 ic_1 rfl (Nat.le_of_ble_eq_true rfl) ?_
        refine V_inc dX8_find_202 ic_1 rfl (Nat.le_of_ble_eq_true rfl) ?_
        refine V_goto (t := 83) dX8_find_205 (by decide) ?_
        exact V_sub (by exact (And.intro rfl (And.intro rfl (And.intro rfl (And.intro rfl (And.intro rfl (And.intro rfl (And.intro rfl True.intro)))))))) (q3 z1 z2 z3)
  ·
    refine V_aload_n dX8_find_104 rfl rfl ?_
    refine V_get (ci := 8) (j := 21) (C0 := RX8) (T := TX8) (N := 33) dX8_find_105 rfl g42 (by decide) (by decide) kf_X8_53 rfl ?_
    refine V_sipush dX8_find_108 sp_200 ?_
    refine V_iload_n dX8_find_111 rfl rfl ?_
    refine V_imul dX8_find_112 ?_
    refine V_iload_n dX8_find_113 rfl rfl ?_
    refine V_iadd dX8_find_114 ?_
    refine V_iload dX8_find_115 rfl ?_
    refine V_iadd dX8_find_117 ?_
    refine V_iald dX8_find_118 g57 (q4 z1) ?_
    refine V_istore dX8_find_119 (Nat.le_of_ble_eq_true rfl) ?_
    refine V_iload dX8_find_121 rfl ?_
    refine V_iload dX8_find_123 rfl ?_
    refine V_i2l dX8_find_125 ?_
    refine V_lconst dX8_find_126 lc_0 ?_
    refine V_aload_n dX8_find_127 rfl rfl ?_
    refine V_get (ci := 8) (j := 0) (C0 := RX8) (T := TX8) (N := 33) dX8_find_128 rfl g42 (by decide) (by decide) kf_X8_92 rfl ?_
    refine V_iconst dX8_find_131 ic_1 ?_
    refine V_isub dX8_find_132 ?_
    refine V_i2l dX8_find_133 ?_
    exact V_sub (by exact (And.intro rfl (And.intro rfl (And.intro rfl (And.intro rfl (And.intro rfl (And.intro rfl (And.intro rfl (And.intro rfl (And.intro rfl (And.intro rfl True.intro))))))))))) (q5 z1)
theorem tX8_find_4 {G : gx} {b : bg} {h : ah} {Q : Option Value → ah → Prop} {x1 : Int32} {x2 : Int32} {x3 : Int32} {x4 : Int32} {s0 : Int32} (q1 : (s0 = (0 : Int32)) → Q (some (.int (-2 : Int32))) h) (q2 : (¬ s0 = (0 : Int32)) → V G mX8_find b 13 [some (.ref 42), some (.int x1), some (.int x2), some (.int x3), some (.int x4)] [.long (40 : Int64), .long (1 : Int64), .long (x3.toInt64)] h Q) : V G mX8_find b 4 [some (.ref 42), some (.int x1), some (.int x2), some (.int x3), some (.int x4)] [.int s0] h Q := by
  refine V_if_eq (t := 32) dX8_find_4 (by decide) (fun z1 => ?_) (fun z1 => ?_)
  ·
    refine V_bipush dX8_find_32 bp_m2 ?_
    exact V_iret dX8_find_34 rfl (q1 z1)
  ·
    refine V_iload_n dX8_find_7 rfl rfl ?_
    refine V_i2l dX8_find_8 ?_
    refine V_lconst dX8_find_9 lc_1 ?_
    refine V_ldc2 dX8_find_10 kk_X8_184 ?_
    exact V_sub (by exact (And.intro rfl (And.intro rfl (And.intro rfl (And.intro rfl (And.intro rfl True.intro)))))) (q2 z1)
theorem tX8_find_16 {G : gx} {b : bg} {h : ah} {Q : Option Value → ah → Prop} {x1 : Int32} {x2 : Int32} {x3 : Int32} {x4 : Int32} {s0 : Int32} (q1 : (s0 = (0 : Int32)) → Q (some (.int (-2 : Int32))) h) (q2 : (¬ s0 = (0 : Int32)) → V G mX8_find b 26 [some (.ref 42), some (.int x1), some (.int x2), some (.int x3), some (.int x4)] [.long (40 : Int64), .long (0 : Int64), .long (x4.toInt64)] h Q) : V G mX8_find b 16 [some (.ref 42), some (.int x1), some (.int x2), some (.int x3), some (.int x4)] [.int s0] h Q := by
  refine V_if_eq (t := 32) dX8_find_16 (by decide) (fun z1 => ?_) (fun z1 => ?_)
  ·
    refine V_bipush dX8_find_32 bp_m2 ?_
    exact V_iret dX8_find_34 rfl (q1 z1)
  ·
    refine V_iload dX8_find_19 rfl ?_
    refine V_i2l dX8_find_21 ?_
    refine V_lconst dX8_find_22 lc_0 ?_
    refine V_ldc2 dX8_find_23 kk_X8_184 ?_
    exact V_sub (by exact (And.intro rfl (And.intro rfl (And.intro rfl (And.intro rfl (And.intro rfl True.intro)))))) (q2 z1)
theorem tX8_find_29 {G : gx} {b : bg} {h : ah} {Q : Option Value → ah → Prop} {x1 : Int32} {x2 : Int32} {x3 : Int32} {x4 : Int32} {s0 : Int32} {mk : Int32} {mn : Int32} {mall : Int32} {msum : Int32} {mexchanges : Int32} {mcycleMany : Int32} {mwhich : Int32} {mlatest : Int32} {mfirstFound : Int32} {mpartMany : Int32} {mlength : Int32} {mforms : Nat → Int32} (g42 : h 42 = (8, .inl [.int mk, .int mn, .int mall, .ref 43, .ref 44, .ref 45, .ref 46, .int msum, .ref 47, .int mexchanges, .ref 48, .ref 49, .ref 50, .ref 51, .int mcycleMany, .ref 52, .int mwhich, .ref 53, .ref 54, .ref 55, .ref 56, .ref 57, .ref 58, .int mlatest, .int mfirstFound, .int mpartMany, .ref 59, .int mlength, .ref 60, .ref 61, .ref 62, .ref 63, .ref 64])) (g55 : h 55 = (0, .inr (4, .inl mforms))) (q1 : (¬ s0 = (0 : Int32)) → (¬ mwhich = (-1 : Int32)) → vp_in x1 4) (q2 : (¬ s0 = (0 : Int32)) → (¬ mwhich = (-1 : Int32)) → ((0 : Int32) ≤ (mforms x1.toNatClampNeg)) → V G mX8_find b 65 [some (.ref 42), some (.int x1), some (.int x2), some (.int x3), some (.int x4)] [.int x3, .int x2, .int x1, .ref 42] h Q) (q3 : (¬ s0 = (0 : Int32)) → (¬ mwhich = (-1 : Int32)) → (¬ (0 : Int32) ≤ (mforms x1.toNatClampNeg)) → V G mX8_find b 57 [some (.ref 42), some (.int x1), some (.int x2), some (.int x3), some (.int x4)] [.int (1 : Int32), .ref 42] h Q) (q4 : (¬ s0 = (0 : Int32)) → (mwhich = (-1 : Int32)) → Q (some (.int (-3 : Int32))) h) (q5 : (s0 = (0 : Int32)) → Q (some (.int (-2 : Int32))) h) : V G mX8_find b 29 [some (.ref 42), some (.int x1), some (.int x2), some (.int x3), some (.int x4)] [.int s0] h Q := by
  refine V_if_ne (t := 35) dX8_find_29 (by decide) (fun z1 => ?_) (fun z1 => ?_)
  ·
    refine V_aload_n dX8_find_35 rfl rfl ?_
    refine V_get (ci := 8) (j := 16) (C0 := RX8) (T := TX8) (N := 33) dX8_find_36 rfl g42 (by decide) (by decide) kf_X8_112 rfl ?_
    refine V_iconst dX8_find_39 ic_m1 ?_
    refine V_icmp_ne (t := 46) dX8_find_40 (by decide) (fun z2 => ?_) (fun z2 => ?_)
    ·
      refine V_aload_n dX8_find_46 rfl rfl ?_
      refine V_get (ci := 8) (j := 19) (C0 := RX8) (T := TX8) (N := 33) dX8_find_47 rfl g42 (by decide) (by decide) kf_X8_47 rfl ?_
      refine V_iload_n dX8_find_50 rfl rfl ?_
      refine V_iald dX8_find_51 g55 (q1 z1 z2) ?_
      refine V_if_ge (t := 61) dX8_find_52 (by decide) (fun z3 => ?_) (fun z3 => ?_)
      ·
        refine V_aload_n dX8_find_61 rfl rfl ?_
        refine V_iload_n dX8_find_62 rfl rfl ?_
        refine V_iload_n dX8_find_63 rfl rfl ?_
        refine V_iload_n dX8_find_64 rfl rfl ?_
        exact V_sub (by exact (And.intro rfl (And.intro rfl (And.intro rfl (And.intro rfl (And.intro rfl True.intro)))))) (q2 z1 z2 z3)
      ·
        refine V_aload_n dX8_find_55 rfl rfl ?_
        refine V_iconst dX8_find_56 ic_1 ?_
        exact V_sub (by exact (And.intro rfl (And.intro rfl (And.intro rfl (And.intro rfl (And.intro rfl True.intro)))))) (q3 z1 z2 z3)
    ·
      refine V_bipush dX8_find_43 bp_m3 ?_
      exact V_iret dX8_find_45 rfl (q4 z1 z2)
  ·
    refine V_bipush dX8_find_32 bp_m2 ?_
    exact V_iret dX8_find_34 rfl (q5 z1)
theorem tX8_find_60 {G : gx} {b : bg} {h : ah} {Q : Option Value → ah → Prop} {x1 : Int32} {x2 : Int32} {x3 : Int32} {x4 : Int32} {s0 : Int32} (q1 : Q (some (.int s0)) h) : V G mX8_find b 60 [some (.ref 42), some (.int x1), some (.int x2), some (.int x3), some (.int x4)] [.int s0] h Q := by
  exact V_iret dX8_find_60 rfl (q1)
theorem tX8_find_68 {G : gx} {b : bg} {h : ah} {Q : Option Value → ah → Prop} {x1 : Int32} {x2 : Int32} {x3 : Int32} {x4 : Int32} {s0 : Int32} (q1 : (¬ s0 = (0 : Int32)) → V G mX8_find b 83 [some (.ref 42), some (.int x1), some (.int x2), some (.int x3), some (.int x4), some (.int (0 : Int32)), some (.int (0 : Int32))] [] h Q) (q2 : (s0 = (0 : Int32)) → V G mX8_find b 73 [some (.ref 42), some (.int x1), some (.int x2), some (.int x3), some (.int x4)] [.int (2 : Int32), .ref 42] h Q) : V G mX8_find b 68 [some (.ref 42), some (.int x1), some (.int x2), some (.int x3), some (.int x4)] [.int s0] h Q := by
  refine V_if_ne (t := 77) dX8_find_68 (by decide) (fun z1 => ?_) (fun z1 => ?_)
  ·
    refine V_iconst dX8_find_77 ic_0 ?_
    refine V_istore dX8_find_78 (Nat.le_of_ble_eq_true rfl) ?_
    refine V_iconst dX8_find_80 ic_0 ?_
    refine V_istore dX8_find_81 (Nat.le_of_ble_eq_true rfl) ?_
    exact V_sub (by exact (And.intro rfl (And.intro rfl (And.intro rfl (And.intro rfl (And.intro rfl (And.intro rfl (And.intro rfl True.intro)))))))) (q1 z1)
  ·
    refine V_aload_n dX8_find_71 rfl rfl ?_
    refine V_iconst dX8_find_72 ic_2 ?_
    exact V_sub (by exact (And.intro rfl (And.intro rfl (And.intro rfl (And.intro rfl (And.intro rfl True.intro)))))) (q2 z1)
theorem tX8_find_76 {G : gx} {b : bg} {h : ah} {Q : Option Value → ah → Prop} {x1 : Int32} {x2 : Int32} {x3 : Int32} {x4 : Int32} {s0 : Int32} (q1 : Q (some (.int s0)) h) : V G mX8_find b 76 [some (.ref 42), some (.int x1), some (.int x2), some (.int x3), some (.int x4)] [.int s0] h Q := by
  exact V_iret dX8_find_76 rfl (q1)
theorem tX8_find_137 {G : gx} {b : bg} {h : ah} {Q : Option Value → ah → Prop} {x1 : Int32} {x2 : Int32} {x3 : Int32} {x4 : Int32} {x5 : Int32} {x6 : Int32} {x7 : Int32} {x8 : Int32} {x9 : Int32} {s0 : Int32} {s1 : Int32} {mk : Int32} {mn : Int32} {mall : Int32} {msum : Int32} {mexchanges : Int32} {mcycleMany : Int32} {mwhich : Int32} {mlatest : Int32} {mfirstFound : Int32} {mpartMany : Int32} {mlength : Int32} {mround : Nat → Int32} (g42 : h 42 = (8, .inl [.int mk, .int mn, .int mall, .ref 43, .ref 44, .ref 45, .ref 46, .int msum, .ref 47, .int mexchanges, .ref 48, .ref 49, .ref 50, .ref 51, .int mcycleMany, .ref 52, .int mwhich, .ref 53, .ref 54, .ref 55, .ref 56, .ref 57, .ref 58, .int mlatest, .int mfirstFound, .int mpartMany, .ref 59, .int mlength, .ref 60, .ref 61, .ref 62, .ref 63, .ref 64])) (g53 : h 53 = (0, .inr (20000, .inl mround))) (q1 : (s0 = (0 : Int32)) → V G mX8_find b 98 [some (.ref 42), some (.int x1), some (.int x2), some (.int x3), some (.int x4), some (.int x5), some (.int x6), some (.int (s1 + (0 : Int32))), some (.int (x8 + (1 : Int32)))] [] h Q) (q2 : (¬ s0 = (0 : Int32)) → ¬ mall = 0) (q3 : (¬ s0 = (0 : Int32)) → vp_in ((x6 + x8) - (x6 + x8) / mall * mall) 20000) (q4 : (¬ s0 = (0 : Int32)) → (x9 = (mround ((x6 + x8) - (x6 + x8) / mall * mall).toNatClampNeg)) → V G mX8_find b 98 [some (.ref 42), some (.int x1), some (.int x2), some (.int x3), some (.int x4), some (.int x5), some (.int x6), some (.int (s1 + (0 : Int32))), some (.int (x8 + (1 : Int32)))] [] h Q) (q5 : (¬ s0 = (0 : Int32)) → (¬ x9 = (mround ((x6 + x8) - (x6 + x8) / mall * mall).toNatClampNeg)) → V G mX8_find b 98 [some (.ref 42), some (.int x1), some (.int x2), some (.int x3), some (.int x4), some (.int x5), some (.int x6), some (.int (s1 + (1 : Int32))), some (.int (x8 + (1 : Int32)))] [] h Q) : V G mX8_find b 137 [some (.ref 42), some (.int x1), some (.int x2), some (.int x3), some (.int x4), some (.int x5), some (.int x6), some (.int x7), some (.int x8), some (.int x9)] [.int s0, .int s1] h Q := by
  refine V_if_eq (t := 164) dX8_find_137 (by decide) (fun z1 => ?_) (fun z1 => ?_)
  ·
    refine V_iconst dX8_find_164 ic_0 ?_
    refine V_iadd dX8_find_165 ?_
    refine V_istore dX8_find_166 (Nat.le_of_ble_eq_true rfl) ?_
    refine V_inc dX8_find_168 ic_1 rfl (Nat.le_of_ble_eq_true rfl) ?_
    refine V_goto (t := 98) dX8_find_171 (by decide) ?_
    exact V_sub (by exact (And.intro rfl (And.intro rfl (And.intro rfl (And.intro rfl (And.intro rfl (And.intro rfl (And.intro rfl (And.intro rfl (And.intro rfl True.intro)))))))))) (q1 z1)
  ·
    refine V_iload dX8_find_140 rfl ?_
    refine V_aload_n dX8_find_142 rfl rfl ?_
    refine V_get (ci := 8) (j := 17) (C0 := RX8) (T := TX8) (N := 33) dX8_find_143 rfl g42 (by decide) (by decide) kf_X8_41 rfl ?_
    refine V_iload dX8_find_146 rfl ?_
    refine V_iload dX8_find_148 rfl ?_
    refine V_iadd dX8_find_150 ?_
    refine V_aload_n dX8_find_151 rfl rfl ?_
    refine V_get (ci := 8) (j := 2) (C0 := RX8) (T := TX8) (N := 33) dX8_find_152 rfl g42 (by decide) (by decide) kf_X8_99 rfl ?_
    refine V_irem dX8_find_155 (q2 z1) ?_
    refine V_iald dX8_find_156 g53 (q3 z1) ?_
    refine V_icmp_eq (t := 164) dX8_find_157 (by decide) (fun z2 => ?_) (fun z2 => ?_)
    ·
      refine V_iconst dX8_find_164 ic_0 ?_
      refine V_iadd dX8_find_165 ?_
      refine V_istore dX8_find_166 (Nat.le_of_ble_eq_true rfl) ?_
      refine V_inc dX8_find_168 ic_1 rfl (Nat.le_of_ble_eq_true rfl) ?_
      refine V_goto (t := 98) dX8_find_171 (by decide) ?_
      exact V_sub (by exact (And.intro rfl (And.intro rfl (And.intro rfl (And.intro rfl (And.intro rfl (And.intro rfl (And.intro rfl (And.intro rfl (And.intro rfl True.intro)))))))))) (q4 z1 z2)
    ·
      refine V_iconst dX8_find_160 ic_1 ?_
      refine V_goto (t := 165) dX8_find_161 (by decide) ?_
      refine V_iadd dX8_find_165 ?_
      refine V_istore dX8_find_166 (Nat.le_of_ble_eq_true rfl) ?_
      refine V_inc dX8_find_168 ic_1 rfl (Nat.le_of_ble_eq_true rfl) ?_
      refine V_goto (t := 98) dX8_find_171 (by decide) ?_
      exact V_sub (by exact (And.intro rfl (And.intro rfl (And.intro rfl (And.intro rfl (And.intro rfl (And.intro rfl (And.intro rfl (And.intro rfl (And.intro rfl True.intro)))))))))) (q5 z1 z2)
theorem cX8_find_1 {G : gx} {d mc ms cc zz d2 mc2 ms2 : Nat} {L : List (Option Value)} {S : List Value} {h : ah} {Q Q2 : Option Value → ah → Prop} {a0 : Value} (hM : Ct G mX8_isTape d2 mc2 ms2 [a0] h Q2) (hdd : d2 < d ∧ d ≤ 9) (hrm : (S.map fun v => v.category).sum ≤ 8) (hf : cc + mc2 ≤ mc ∧ zz + ms2 ≤ ms) (kk : ∀ r h2, Q2 r h2 → V G mX8_find (d, mc, ms, cc + mc2, zz + ms2) 4 L (r.toList ++ S) h2 Q) : V G mX8_find (d, mc, ms, cc, zz) 1 L (a0 :: S) h Q := V_callS hM dX8_find_1 ⟨km_X8_168, kt_X8_isTape⟩ cw_X8_isTape hdd rfl rfl hrm hf kk
theorem cX8_find_13 {G : gx} {d mc ms cc zz d2 mc2 ms2 : Nat} {L : List (Option Value)} {S : List Value} {h : ah} {Q Q2 : Option Value → ah → Prop} {a0 a1 a2 : Value} (hM : Ct G mX8_in d2 mc2 ms2 [a0, a1, a2] h Q2) (hdd : d2 < d ∧ d ≤ 9) (hrm : (S.map fun v => v.category).sum ≤ 8) (hf : cc + mc2 ≤ mc ∧ zz + ms2 ≤ ms) (kk : ∀ r h2, Q2 r h2 → V G mX8_find (d, mc, ms, cc + mc2, zz + ms2) 16 L (r.toList ++ S) h2 Q) : V G mX8_find (d, mc, ms, cc, zz) 13 L (a2 :: a1 :: a0 :: S) h Q := V_callS hM dX8_find_13 ⟨km_X8_86, kt_X8_in⟩ cw_X8_in hdd rfl rfl hrm hf kk
theorem cX8_find_26 {G : gx} {d mc ms cc zz d2 mc2 ms2 : Nat} {L : List (Option Value)} {S : List Value} {h : ah} {Q Q2 : Option Value → ah → Prop} {a0 a1 a2 : Value} (hM : Ct G mX8_in d2 mc2 ms2 [a0, a1, a2] h Q2) (hdd : d2 < d ∧ d ≤ 9) (hrm : (S.map fun v => v.category).sum ≤ 8) (hf : cc + mc2 ≤ mc ∧ zz + ms2 ≤ ms) (kk : ∀ r h2, Q2 r h2 → V G mX8_find (d, mc, ms, cc + mc2, zz + ms2) 29 L (r.toList ++ S) h2 Q) : V G mX8_find (d, mc, ms, cc, zz) 26 L (a2 :: a1 :: a0 :: S) h Q := V_callS hM dX8_find_26 ⟨km_X8_86, kt_X8_in⟩ cw_X8_in hdd rfl rfl hrm hf kk
theorem cX8_find_57 {G : gx} {d mc ms cc zz d2 mc2 ms2 : Nat} {L : List (Option Value)} {S : List Value} {h : ah} {Q Q2 : Option Value → ah → Prop} {k : Nat} {fs : List Value} {a0 : Value} (hM : Ct G mX8_met d2 mc2 ms2 (.ref (k + 2) :: [a0]) h Q2) (hc : h (k + 2) = (8, .inl fs)) (hdd : d2 < d ∧ d ≤ 9) (hrm : (S.map fun v => v.category).sum ≤ 8) (hf : cc + mc2 ≤ mc ∧ zz + ms2 ≤ ms) (kk : ∀ r h2, Q2 r h2 → V G mX8_find (d, mc, ms, cc + mc2, zz + ms2) 60 L (r.toList ++ S) h2 Q) : V G mX8_find (d, mc, ms, cc, zz) 57 L (a0 :: .ref (k + 2) :: S) h Q := V_callV (ci := 8) (T := TX8) (N := 33) hM dX8_find_57 ⟨km_X8_171, ki_X8_met, ks_X8_met⟩ cw_X8_met rfl hc (by decide) hdd rfl rfl hrm hf kk
theorem cX8_find_65 {G : gx} {d mc ms cc zz d2 mc2 ms2 : Nat} {L : List (Option Value)} {S : List Value} {h : ah} {Q Q2 : Option Value → ah → Prop} {k : Nat} {fs : List Value} {a0 a1 a2 : Value} (hM : Ct G mX8_isWithin d2 mc2 ms2 (.ref (k + 2) :: [a0, a1, a2]) h Q2) (hc : h (k + 2) = (8, .inl fs)) (hdd : d2 < d ∧ d ≤ 9) (hrm : (S.map fun v => v.category).sum ≤ 8) (hf : cc + mc2 ≤ mc ∧ zz + ms2 ≤ ms) (kk : ∀ r h2, Q2 r h2 → V G mX8_find (d, mc, ms, cc + mc2, zz + ms2) 68 L (r.toList ++ S) h2 Q) : V G mX8_find (d, mc, ms, cc, zz) 65 L (a2 :: a1 :: a0 :: .ref (k + 2) :: S) h Q := V_callV (ci := 8) (T := TX8) (N := 33) hM dX8_find_65 ⟨km_X8_180, ki_X8_isWithin, ks_X8_isWithin⟩ cw_X8_isWithin rfl hc (by decide) hdd rfl rfl hrm hf kk
theorem cX8_find_73 {G : gx} {d mc ms cc zz d2 mc2 ms2 : Nat} {L : List (Option Value)} {S : List Value} {h : ah} {Q Q2 : Option Value → ah → Prop} {k : Nat} {fs : List Value} {a0 : Value} (hM : Ct G mX8_met d2 mc2 ms2 (.ref (k + 2) :: [a0]) h Q2) (hc : h (k + 2) = (8, .inl fs)) (hdd : d2 < d ∧ d ≤ 9) (hrm : (S.map fun v => v.category).sum ≤ 8) (hf : cc + mc2 ≤ mc ∧ zz + ms2 ≤ ms) (kk : ∀ r h2, Q2 r h2 → V G mX8_find (d, mc, ms, cc + mc2, zz + ms2) 76 L (r.toList ++ S) h2 Q) : V G mX8_find (d, mc, ms, cc, zz) 73 L (a0 :: .ref (k + 2) :: S) h Q := V_callV (ci := 8) (T := TX8) (N := 33) hM dX8_find_73 ⟨km_X8_171, ki_X8_met, ks_X8_met⟩ cw_X8_met rfl hc (by decide) hdd rfl rfl hrm hf kk
theorem cX8_find_134 {G : gx} {d mc ms cc zz d2 mc2 ms2 : Nat} {L : List (Option Value)} {S : List Value} {h : ah} {Q Q2 : Option Value → ah → Prop} {a0 a1 a2 : Value} (hM : Ct G mX8_in d2 mc2 ms2 [a0, a1, a2] h Q2) (hdd : d2 < d ∧ d ≤ 9) (hrm : (S.map fun v => v.category).sum ≤ 8) (hf : cc + mc2 ≤ mc ∧ zz + ms2 ≤ ms) (kk : ∀ r h2, Q2 r h2 → V G mX8_find (d, mc, ms, cc + mc2, zz + ms2) 137 L (r.toList ++ S) h2 Q) : V G mX8_find (d, mc, ms, cc, zz) 134 L (a2 :: a1 :: a0 :: S) h Q := V_callS hM dX8_find_134 ⟨km_X8_86, kt_X8_in⟩ cw_X8_in hdd rfl rfl hrm hf kk
theorem tX8_found_0 {G : gx} {b : bg} {h : ah} {Q : Option Value → ah → Prop} {mk : Int32} {mn : Int32} {mall : Int32} {msum : Int32} {mexchanges : Int32} {mcycleMany : Int32} {mwhich : Int32} {mlatest : Int32} {mfirstFound : Int32} {mpartMany : Int32} {mlength : Int32} (g42 : h 42 = (8, .inl [.int mk, .int mn, .int mall, .ref 43, .ref 44, .ref 45, .ref 46, .int msum, .ref 47, .int mexchanges, .ref 48, .ref 49, .ref 50, .ref 51, .int mcycleMany, .ref 52, .int mwhich, .ref 53, .ref 54, .ref 55, .ref 56, .ref 57, .ref 58, .int mlatest, .int mfirstFound, .int mpartMany, .ref 59, .int mlength, .ref 60, .ref 61, .ref 62, .ref 63, .ref 64])) (q1 : Q (some (.int mfirstFound)) h) : V G mX8_found b 0 [some (.ref 42)] [] h Q := by
  refine V_aload_n dX8_found_0 rfl rfl ?_
  refine V_get (ci := 8) (j := 24) (C0 := RX8) (T := TX8) (N := 33) dX8_found_1 rfl g42 (by decide) (by decide) kf_X8_115 rfl ?_
  exact V_iret dX8_found_4 rfl (q1)
theorem tX8_noLetters_0 {G : gx} {b : bg} {h : ah} {Q : Option Value → ah → Prop} {x1 : Int32} {mk : Int32} {mn : Int32} {mall : Int32} {msum : Int32} {mexchanges : Int32} {mcycleMany : Int32} {mwhich : Int32} {mlatest : Int32} {mfirstFound : Int32} {mpartMany : Int32} {mlength : Int32} {mforms : Nat → Int32} (g42 : h 42 = (8, .inl [.int mk, .int mn, .int mall, .ref 43, .ref 44, .ref 45, .ref 46, .int msum, .ref 47, .int mexchanges, .ref 48, .ref 49, .ref 50, .ref 51, .int mcycleMany, .ref 52, .int mwhich, .ref 53, .ref 54, .ref 55, .ref 56, .ref 57, .ref 58, .int mlatest, .int mfirstFound, .int mpartMany, .ref 59, .int mlength, .ref 60, .ref 61, .ref 62, .ref 63, .ref 64])) (g55 : h 55 = (0, .inr (4, .inl mforms))) (q1 : vp_in x1 4) (q2 : ((0 : Int32) ≤ (mforms x1.toNatClampNeg)) → V G mX8_noLetters b 19 [some (.ref 42), some (.int x1), some (.int (1 : Int32)), some (.int (0 : Int32))] [] h Q) (q3 : (¬ (0 : Int32) ≤ (mforms x1.toNatClampNeg)) → V G mX8_noLetters b 11 [some (.ref 42), some (.int x1)] [.int (1 : Int32), .ref 42] h Q) : V G mX8_noLetters b 0 [some (.ref 42), some (.int x1)] [] h Q := by
  refine V_aload_n dX8_noLetters_0 rfl rfl ?_
  refine V_get (ci := 8) (j := 19) (C0 := RX8) (T := TX8) (N := 33) dX8_noLetters_1 rfl g42 (by decide) (by decide) kf_X8_47 rfl ?_
  refine V_iload_n dX8_noLetters_4 rfl rfl ?_
  refine V_iald dX8_noLetters_5 g55 (q1) ?_
  refine V_if_ge (t := 15) dX8_noLetters_6 (by decide) (fun z1 => ?_) (fun z1 => ?_)
  ·
    refine V_iconst dX8_noLetters_15 ic_1 ?_
    refine V_istore_n dX8_noLetters_16 rfl (Nat.le_of_ble_eq_true rfl) ?_
    refine V_iconst dX8_noLetters_17 ic_0 ?_
    refine V_istore_n dX8_noLetters_18 rfl (Nat.le_of_ble_eq_true rfl) ?_
    exact V_sub (by exact (And.intro rfl (And.intro rfl (And.intro rfl (And.intro rfl True.intro))))) (q2 z1)
  ·
    refine V_aload_n dX8_noLetters_9 rfl rfl ?_
    refine V_iconst dX8_noLetters_10 ic_1 ?_
    exact V_sub (by exact (And.intro rfl (And.intro rfl True.intro))) (q3 z1)
theorem tX8_noLetters_19 {G : gx} {b : bg} {h : ah} {Q : Option Value → ah → Prop} {x1 : Int32} {x2 : Int32} {x3 : Int32} {mk : Int32} {mn : Int32} {mall : Int32} {msum : Int32} {mexchanges : Int32} {mcycleMany : Int32} {mwhich : Int32} {mlatest : Int32} {mfirstFound : Int32} {mpartMany : Int32} {mlength : Int32} {msizes : Nat → Int32} {mitems : Nat → Int32} (g42 : h 42 = (8, .inl [.int mk, .int mn, .int mall, .ref 43, .ref 44, .ref 45, .ref 46, .int msum, .ref 47, .int mexchanges, .ref 48, .ref 49, .ref 50, .ref 51, .int mcycleMany, .ref 52, .int mwhich, .ref 53, .ref 54, .ref 55, .ref 56, .ref 57, .ref 58, .int mlatest, .int mfirstFound, .int mpartMany, .ref 59, .int mlength, .ref 60, .ref 61, .ref 62, .ref 63, .ref 64])) (g56 : h 56 = (0, .inr (4, .inl msizes))) (g57 : h 57 = (0, .inr (800, .inl mitems))) (q1 : vp_in x1 4) (q2 : ((msizes x1.toNatClampNeg) ≤ x3) → (x2 = (0 : Int32)) → Q (some (.int (-3 : Int32))) h) (q3 : ((msizes x1.toNatClampNeg) ≤ x3) → (¬ x2 = (0 : Int32)) → Q (some (.int (0 : Int32))) h) (q4 : (¬ (msizes x1.toNatClampNeg) ≤ x3) → (x2 = (0 : Int32)) → V G mX8_noLetters b 19 [some (.ref 42), some (.int x1), some (.int (0 : Int32)), some (.int (x3 + (1 : Int32)))] [] h Q) (q5 : (¬ (msizes x1.toNatClampNeg) ≤ x3) → (¬ x2 = (0 : Int32)) → vp_in (((200 : Int32) * x1) + x3) 800) (q6 : (¬ (msizes x1.toNatClampNeg) ≤ x3) → (¬ x2 = (0 : Int32)) → V G mX8_noLetters b 54 [some (.ref 42), some (.int x1), some (.int x2), some (.int x3)] [.long ((mk - (1 : Int32)).toInt64), .long (0 : Int64), .long ((mitems (((200 : Int32) * x1) + x3).toNatClampNeg).toInt64)] h Q) : V G mX8_noLetters b 19 [some (.ref 42), some (.int x1), some (.int x2), some (.int x3)] [] h Q := by
  refine V_iload_n dX8_noLetters_19 rfl rfl ?_
  refine V_aload_n dX8_noLetters_20 rfl rfl ?_
  refine V_get (ci := 8) (j := 20) (C0 := RX8) (T := TX8) (N := 33) dX8_noLetters_21 rfl g42 (by decide) (by decide) kf_X8_50 rfl ?_
  refine V_iload_n dX8_noLetters_24 rfl rfl ?_
  refine V_iald dX8_noLetters_25 g56 (q1) ?_
  refine V_icmp_ge (t := 72) dX8_noLetters_26 (by decide) (fun z1 => ?_) (fun z1 => ?_)
  ·
    refine V_iload_n dX8_noLetters_72 rfl rfl ?_
    refine V_if_eq (t := 80) dX8_noLetters_73 (by decide) (fun z2 => ?_) (fun z2 => ?_)
    ·
      refine V_bipush dX8_noLetters_80 bp_m3 ?_
      exact V_iret dX8_noLetters_82 rfl (q2 z1 z2)
    ·
      refine V_iconst dX8_noLetters_76 ic_0 ?_
      refine V_goto (t := 82) dX8_noLetters_77 (by decide) ?_
      exact V_iret dX8_noLetters_82 rfl (q3 z1 z2)
  ·
    refine V_iload_n dX8_noLetters_29 rfl rfl ?_
    refine V_if_eq (t := 64) dX8_noLetters_30 (by decide) (fun z3 => ?_) (fun z3 => ?_)
    ·
      refine V_iconst dX8_noLetters_64 ic_0 ?_
      refine V_istore_n dX8_noLetters_65 rfl (Nat.le_of_ble_eq_true rfl) ?_
      refine V_inc dX8_noLetters_66 ic_1 rfl (Nat.le_of_ble_eq_true rfl) ?_
      refine V_goto (t := 19) dX8_noLetters_69 (by decide) ?_
      exact V_sub (by exact (And.intro rfl (And.intro rfl (And.intro rfl (And.intro rfl True.intro))))) (q4 z1 z3)
    ·
      refine V_aload_n dX8_noLetters_33 rfl rfl ?_
      refine V_get (ci := 8) (j := 21) (C0 := RX8) (T := TX8) (N := 33) dX8_noLetters_34 rfl g42 (by decide) (by decide) kf_X8_53 rfl ?_
      refine V_sipush dX8_noLetters_37 sp_200 ?_
      refine V_iload_n dX8_noLetters_40 rfl rfl ?_
      refine V_imul dX8_noLetters_41 ?_
      refine V_iload_n dX8_noLetters_42 rfl rfl ?_
      refine V_iadd dX8_noLetters_43 ?_
      refine V_iald dX8_noLetters_44 g57 (q5 z1 z3) ?_
      refine V_i2l dX8_noLetters_45 ?_
      refine V_lconst dX8_noLetters_46 lc_0 ?_
      refine V_aload_n dX8_noLetters_47 rfl rfl ?_
      refine V_get (ci := 8) (j := 0) (C0 := RX8) (T := TX8) (N := 33) dX8_noLetters_48 rfl g42 (by decide) (by decide) kf_X8_92 rfl ?_
      refine V_iconst dX8_noLetters_51 ic_1 ?_
      refine V_isub dX8_noLetters_52 ?_
      refine V_i2l dX8_noLetters_53 ?_
      exact V_sub (by exact (And.intro rfl (And.intro rfl (And.intro rfl (And.intro rfl True.intro))))) (q6 z1 z3)
theorem tX8_noLetters_14 {G : gx} {b : bg} {h : ah} {Q : Option Value → ah → Prop} {x1 : Int32} {s0 : Int32} (q1 : Q (some (.int s0)) h) : V G mX8_noLetters b 14 [some (.ref 42), some (.int x1)] [.int s0] h Q := by
  exact V_iret dX8_noLetters_14 rfl (q1)
theorem tX8_noLetters_57 {G : gx} {b : bg} {h : ah} {Q : Option Value → ah → Prop} {x1 : Int32} {x2 : Int32} {x3 : Int32} {s0 : Int32} (q1 : (s0 = (0 : Int32)) → V G mX8_noLetters b 19 [some (.ref 42), some (.int x1), some (.int (0 : Int32)), some (.int (x3 + (1 : Int32)))] [] h Q) (q2 : (¬ s0 = (0 : Int32)) → V G mX8_noLetters b 19 [some (.ref 42), some (.int x1), some (.int (1 : Int32)), some (.int (x3 + (1 : Int32)))] [] h Q) : V G mX8_noLetters b 57 [some (.ref 42), some (.int x1), some (.int x2), some (.int x3)] [.int s0] h Q := by
  refine V_if_eq (t := 64) dX8_noLetters_57 (by decide) (fun z1 => ?_) (fun z1 => ?_)
  ·
    refine V_iconst dX8_noLetters_64 ic_0 ?_
    refine V_istore_n dX8_noLetters_65 rfl (Nat.le_of_ble_eq_true rfl) ?_
    refine V_inc dX8_noLetters_66 ic_1 rfl (Nat.le_of_ble_eq_true rfl) ?_
    refine V_goto (t := 19) dX8_noLetters_69 (by decide) ?_
    exact V_sub (by exact (And.intro rfl (And.intro rfl (And.intro rfl (And.intro rfl True.intro))))) (q1 z1)
  ·
    refine V_iconst dX8_noLetters_60 ic_1 ?_
    refine V_goto (t := 65) dX8_noLetters_61 (by decide) ?_
    refine V_istore_n dX8_noLetters_65 rfl (Nat.le_of_ble_eq_true rfl) ?_
    refine V_inc dX8_noLetters_66 ic_1 rfl (Nat.le_of_ble_eq_true rfl) ?_
    refine V_goto (t := 19) dX8_noLetters_69 (by decide) ?_
    exact V_sub (by exact (And.intro rfl (And.intro rfl (And.intro rfl (And.intro rfl True.intro))))) (q2 z1)
theorem cX8_noLetters_11 {G : gx} {d mc ms cc zz d2 mc2 ms2 : Nat} {L : List (Option Value)} {S : List Value} {h : ah} {Q Q2 : Option Value → ah → Prop} {k : Nat} {fs : List Value} {a0 : Value} (hM : Ct G mX8_met d2 mc2 ms2 (.ref (k + 2) :: [a0]) h Q2) (hc : h (k + 2) = (8, .inl fs)) (hdd : d2 < d ∧ d ≤ 9) (hrm : (S.map fun v => v.category).sum ≤ 8) (hf : cc + mc2 ≤ mc ∧ zz + ms2 ≤ ms) (kk : ∀ r h2, Q2 r h2 → V G mX8_noLetters (d, mc, ms, cc + mc2, zz + ms2) 14 L (r.toList ++ S) h2 Q) : V G mX8_noLetters (d, mc, ms, cc, zz) 11 L (a0 :: .ref (k + 2) :: S) h Q := V_callV (ci := 8) (T := TX8) (N := 33) hM dX8_noLetters_11 ⟨km_X8_171, ki_X8_met, ks_X8_met⟩ cw_X8_met rfl hc (by decide) hdd rfl rfl hrm hf kk
theorem cX8_noLetters_54 {G : gx} {d mc ms cc zz d2 mc2 ms2 : Nat} {L : List (Option Value)} {S : List Value} {h : ah} {Q Q2 : Option Value → ah → Prop} {a0 a1 a2 : Value} (hM : Ct G mX8_in d2 mc2 ms2 [a0, a1, a2] h Q2) (hdd : d2 < d ∧ d ≤ 9) (hrm : (S.map fun v => v.category).sum ≤ 8) (hf : cc + mc2 ≤ mc ∧ zz + ms2 ≤ ms) (kk : ∀ r h2, Q2 r h2 → V G mX8_noLetters (d, mc, ms, cc + mc2, zz + ms2) 57 L (r.toList ++ S) h2 Q) : V G mX8_noLetters (d, mc, ms, cc, zz) 54 L (a2 :: a1 :: a0 :: S) h Q := V_callS hM dX8_noLetters_54 ⟨km_X8_86, kt_X8_in⟩ cw_X8_in hdd rfl rfl hrm hf kk
theorem tX8_twice_0 {G : gx} {b : bg} {h : ah} {Q : Option Value → ah → Prop} {x1 : Int32} (q1 : V G mX8_twice b 1 [some (.ref 42), some (.int x1)] [.int x1] h Q) : V G mX8_twice b 0 [some (.ref 42), some (.int x1)] [] h Q := by
  refine V_iload_n dX8_twice_0 rfl rfl ?_
  exact V_sub (by exact (And.intro rfl (And.intro rfl True.intro))) (q1)
theorem tX8_twice_36 {G : gx} {b : bg} {h : ah} {Q : Option Value → ah → Prop} {x1 : Int32} {x2 : Int32} {x3 : Int32} {mk : Int32} {mn : Int32} {mall : Int32} {msum : Int32} {mexchanges : Int32} {mcycleMany : Int32} {mwhich : Int32} {mlatest : Int32} {mfirstFound : Int32} {mpartMany : Int32} {mlength : Int32} {msizes : Nat → Int32} (g42 : h 42 = (8, .inl [.int mk, .int mn, .int mall, .ref 43, .ref 44, .ref 45, .ref 46, .int msum, .ref 47, .int mexchanges, .ref 48, .ref 49, .ref 50, .ref 51, .int mcycleMany, .ref 52, .int mwhich, .ref 53, .ref 54, .ref 55, .ref 56, .ref 57, .ref 58, .int mlatest, .int mfirstFound, .int mpartMany, .ref 59, .int mlength, .ref 60, .ref 61, .ref 62, .ref 63, .ref 64])) (g56 : h 56 = (0, .inr (4, .inl msizes))) (q1 : vp_in x1 4) (q2 : ((msizes x1.toNatClampNeg) ≤ x3) → Q (some (.int (-1 : Int32))) h) (q3 : (¬ (msizes x1.toNatClampNeg) ≤ x3) → V G mX8_twice b 49 [some (.ref 42), some (.int x1), some (.int x2), some (.int x3), some (.int (0 : Int32))] [] h Q) : V G mX8_twice b 36 [some (.ref 42), some (.int x1), some (.int x2), some (.int x3)] [] h Q := by
  refine V_iload_n dX8_twice_36 rfl rfl ?_
  refine V_aload_n dX8_twice_37 rfl rfl ?_
  refine V_get (ci := 8) (j := 20) (C0 := RX8) (T := TX8) (N := 33) dX8_twice_38 rfl g42 (by decide) (by decide) kf_X8_50 rfl ?_
  refine V_iload_n dX8_twice_41 rfl rfl ?_
  refine V_iald dX8_twice_42 g56 (q1) ?_
  refine V_icmp_ge (t := 155) dX8_twice_43 (by decide) (fun z1 => ?_) (fun z1 => ?_)
  ·
    refine V_iconst dX8_twice_155 ic_m1 ?_
    exact V_iret dX8_twice_156 rfl (q2 z1)
  ·
    refine V_iconst dX8_twice_46 ic_0 ?_
    refine V_istore dX8_twice_47 (Nat.le_of_ble_eq_true rfl) ?_
    exact V_sub (by exact (And.intro rfl (And.intro rfl (And.intro rfl (And.intro rfl (And.intro rfl True.intro)))))) (q3 z1)
theorem tX8_twice_49 {G : gx} {b : bg} {h : ah} {Q : Option Value → ah → Prop} {x1 : Int32} {x2 : Int32} {x3 : Int32} {x4 : Int32} (q1 : (x3 ≤ x4) → V G mX8_twice b 36 [some (.ref 42), some (.int x1), some (.int x2), some (.int (x3 + (1 : Int32)))] [] h Q) (q2 : (¬ x3 ≤ x4) → V G mX8_twice b 61 [some (.ref 42), some (.int x1), some (.int x2), some (.int x3), some (.int x4), some (.int (1 : Int32)), some (.int (0 : Int32))] [] h Q) : V G mX8_twice b 49 [some (.ref 42), some (.int x1), some (.int x2), some (.int x3), some (.int x4)] [] h Q := by
  refine V_iload dX8_twice_49 rfl ?_
  refine V_iload_n dX8_twice_51 rfl rfl ?_
  refine V_icmp_ge (t := 149) dX8_twice_52 (by decide) (fun z1 => ?_) (fun z1 => ?_)
  ·
    refine V_inc dX8_twice_149 ic_1 rfl (Nat.le_of_ble_eq_true rfl) ?_
    refine V_goto (t := 36) dX8_twice_152 (by decide) ?_
    exact V_sub (by exact (And.intro rfl (And.intro rfl (And.intro rfl (And.intro rfl True.intro))))) (q1 z1)
  ·
    refine V_iconst dX8_twice_55 ic_1 ?_
    refine V_istore dX8_twice_56 (Nat.le_of_ble_eq_true rfl) ?_
    refine V_iconst dX8_twice_58 ic_0 ?_
    refine V_istore dX8_twice_59 (Nat.le_of_ble_eq_true rfl) ?_
    exact V_sub (by exact (And.intro rfl (And.intro rfl (And.intro rfl (And.intro rfl (And.intro rfl (And.intro rfl (And.intro rfl True.intro)))))))) (q2 z1)
theorem tX8_twice_61 {G : gx} {b : bg} {h : ah} {Q : Option Value → ah → Prop} {x1 : Int32} {x2 : Int32} {x3 : Int32} {x4 : Int32} {x5 : Int32} {x6 : Int32} {mk : Int32} {mn : Int32} {mall : Int32} {msum : Int32} {mexchanges : Int32} {mcycleMany : Int32} {mwhich : Int32} {mlatest : Int32} {mfirstFound : Int32} {mpartMany : Int32} {mlength : Int32} {msizes : Nat → Int32} {mitems : Nat → Int32} (g42 : h 42 = (8, .inl [.int mk, .int mn, .int mall, .ref 43, .ref 44, .ref 45, .ref 46, .int msum, .ref 47, .int mexchanges, .ref 48, .ref 49, .ref 50, .ref 51, .int mcycleMany, .ref 52, .int mwhich, .ref 53, .ref 54, .ref 55, .ref 56, .ref 57, .ref 58, .int mlatest, .int mfirstFound, .int mpartMany, .ref 59, .int mlength, .ref 60, .ref 61, .ref 62, .ref 63, .ref 64])) (g56 : h 56 = (0, .inr (4, .inl msizes))) (g57 : h 57 = (0, .inr (800, .inl mitems))) (q1 : (mn ≤ x6) → (x5 = (0 : Int32)) → V G mX8_twice b 49 [some (.ref 42), some (.int x1), some (.int x2), some (.int x3), some (.int (x4 + (1 : Int32)))] [] h Q) (q2 : (mn ≤ x6) → (¬ x5 = (0 : Int32)) → Q (some (.int x3)) h) (q3 : (¬ mn ≤ x6) → (x5 = (0 : Int32)) → (x5 = (0 : Int32)) → V G mX8_twice b 49 [some (.ref 42), some (.int x1), some (.int x2), some (.int x3), some (.int (x4 + (1 : Int32)))] [] h Q) (q4 : (¬ mn ≤ x6) → (x5 = (0 : Int32)) → (¬ x5 = (0 : Int32)) → Q (some (.int x3)) h) (q5 : (¬ mn ≤ x6) → (¬ x5 = (0 : Int32)) → vp_in x1 4) (q6 : (¬ mn ≤ x6) → (¬ x5 = (0 : Int32)) → ¬ (msizes x1.toNatClampNeg) = 0) (q7 : (¬ mn ≤ x6) → (¬ x5 = (0 : Int32)) → vp_in (((200 : Int32) * x1) + ((x3 + x6) - (x3 + x6) / (msizes x1.toNatClampNeg) * (msizes x1.toNatClampNeg))) 800) (q8 : (¬ mn ≤ x6) → (¬ x5 = (0 : Int32)) → vp_in x1 4) (q9 : (¬ mn ≤ x6) → (¬ x5 = (0 : Int32)) → ¬ (msizes x1.toNatClampNeg) = 0) (q10 : (¬ mn ≤ x6) → (¬ x5 = (0 : Int32)) → vp_in (((200 : Int32) * x1) + ((x4 + x6) - (x4 + x6) / (msizes x1.toNatClampNeg) * (msizes x1.toNatClampNeg))) 800) (q11 : (¬ mn ≤ x6) → (¬ x5 = (0 : Int32)) → (¬ (mitems (((200 : Int32) * x1) + ((x3 + x6) - (x3 + x6) / (msizes x1.toNatClampNeg) * (msizes x1.toNatClampNeg))).toNatClampNeg) = (mitems (((200 : Int32) * x1) + ((x4 + x6) - (x4 + x6) / (msizes x1.toNatClampNeg) * (msizes x1.toNatClampNeg))).toNatClampNeg)) → V G mX8_twice b 61 [some (.ref 42), some (.int x1), some (.int x2), some (.int x3), some (.int x4), some (.int (0 : Int32)), some (.int (x6 + (1 : Int32)))] [] h Q) (q12 : (¬ mn ≤ x6) → (¬ x5 = (0 : Int32)) → ((mitems (((200 : Int32) * x1) + ((x3 + x6) - (x3 + x6) / (msizes x1.toNatClampNeg) * (msizes x1.toNatClampNeg))).toNatClampNeg) = (mitems (((200 : Int32) * x1) + ((x4 + x6) - (x4 + x6) / (msizes x1.toNatClampNeg) * (msizes x1.toNatClampNeg))).toNatClampNeg)) → V G mX8_twice b 61 [some (.ref 42), some (.int x1), some (.int x2), some (.int x3), some (.int x4), some (.int (1 : Int32)), some (.int (x6 + (1 : Int32)))] [] h Q) : V G mX8_twice b 61 [some (.ref 42), some (.int x1), some (.int x2), some (.int x3), some (.int x4), some (.int x5), some (.int x6)] [] h Q := by
  refine V_iload dX8_twice_61 rfl ?_
  refine V_aload_n dX8_twice_63 rfl rfl ?_
  refine V_get (ci := 8) (j := 1) (C0 := RX8) (T := TX8) (N := 33) dX8_twice_64 rfl g42 (by decide) (by decide) kf_X8_96 rfl ?_
  refine V_icmp_ge (t := 136) dX8_twice_67 (by decide) (fun z1 => ?_) (fun z1 => ?_)
  ·
    refine V_iload dX8_twice_136 rfl ?_
    refine V_if_eq (t := 143) dX8_twice_138 (by decide) (fun z2 => ?_) (fun z2 => ?_)
    ·
      refine V_inc dX8_twice_143 ic_1 rfl (Nat.le_of_ble_eq_true rfl) ?_
      refine V_goto (t := 49) dX8_twice_146 (by decide) ?_
      exact V_sub (by exact (And.intro rfl (And.intro rfl (And.intro rfl (And.intro rfl (And.intro rfl True.intro)))))) (q1 z1 z2)
    ·
      refine V_iload_n dX8_twice_141 rfl rfl ?_
      exact V_iret dX8_twice_142 rfl (q2 z1 z2)
  ·
    refine V_iload dX8_twice_70 rfl ?_
    refine V_if_eq (t := 136) dX8_twice_72 (by decide) (fun z3 => ?_) (fun z3 => ?_)
    ·
      refine V_iload dX8_twice_136 rfl ?_
      refine V_if_eq (t := 143) dX8_twice_138 (by decide) (fun z4 => ?_) (fun z4 => ?_)
      ·
        refine V_inc dX8_twice_143 ic_1 rfl (Nat.le_of_ble_eq_true rfl) ?_
        refine V_goto (t := 49) dX8_twice_146 (by decide) ?_
        exact V_sub (by exact (And.intro rfl (And.intro rfl (And.intro rfl (And.intro rfl (And.intro rfl True.intro)))))) (q3 z1 z3 z4)
      ·
        refine V_iload_n dX8_twice_141 rfl rfl ?_
        exact V_iret dX8_twice_142 rfl (q4 z1 z3 z4)
    ·
      refine V_aload_n dX8_twice_75 rfl rfl ?_
      refine V_get (ci := 8) (j := 21) (C0 := RX8) (T := TX8) (N := 33) dX8_twice_76 rfl g42 (by decide) (by decide) kf_X8_53 rfl ?_
      refine V_sipush dX8_twice_79 sp_200 ?_
      refine V_iload_n dX8_twice_82 rfl rfl ?_
      refine V_imul dX8_twice_83 ?_
      refine V_iload_n dX8_twice_84 rfl rfl ?_
      refine V_iload dX8_twice_85 rfl ?_
      refine V_iadd dX8_twice_87 ?_
      refine V_aload_n dX8_twice_88 rfl rfl ?_
      refine V_get (ci := 8) (j := 20) (C0 := RX8) (T := TX8) (N := 33) dX8_twice_89 rfl g42 (by decide) (by decide) kf_X8_50 rfl ?_
      refine V_iload_n dX8_twice_92 rfl rfl ?_
      refine V_iald dX8_twice_93 g56 (q5 z1 z3) ?_
      refine V_irem dX8_twice_94 (q6 z1 z3) ?_
      refine V_iadd dX8_twice_95 ?_
      refine V_iald dX8_twice_96 g57 (q7 z1 z3) ?_
      refine V_aload_n dX8_twice_97 rfl rfl ?_
      refine V_get (ci := 8) (j := 21) (C0 := RX8) (T := TX8) (N := 33) dX8_twice_98 rfl g42 (by decide) (by decide) kf_X8_53 rfl ?_
      refine V_sipush dX8_twice_101 sp_200 ?_
      refine V_iload_n dX8_twice_104 rfl rfl ?_
      refine V_imul dX8_twice_105 ?_
      refine V_iload dX8_twice_106 rfl ?_
      refine V_iload dX8_twice_108 rfl ?_
      refine V_iadd dX8_twice_110 ?_
      refine V_aload_n dX8_twice_111 rfl rfl ?_
      refine V_get (ci := 8) (j := 20) (C0 := RX8) (T := TX8) (N := 33) dX8_twice_112 rfl g42 (by decide) (by decide) kf_X8_50 rfl ?_
      refine V_iload_n dX8_twice_115 rfl rfl ?_
      refine V_iald dX8_twice_116 g56 (q8 z1 z3) ?_
      refine V_irem dX8_twice_117 (q9 z1 z3) ?_
      refine V_iadd dX8_twice_118 ?_
      refine V_iald dX8_twice_119 g57 (q10 z1 z3) ?_
      refine V_icmp_ne (t := 127) dX8_twice_120 (by decide) (fun z5 => ?_) (fun z5 => ?_)
      ·
        refine V_iconst dX8_twice_127 ic_0 ?_
        refine V_istore dX8_twice_128 (Nat.le_of_ble_eq_true rfl) ?_
        refine V_inc dX8_twice_130 ic_1 rfl (Nat.le_of_ble_eq_true rfl) ?_
        refine V_goto (t := 61) dX8_twice_133 (by decide) ?_
        exact V_sub (by exact (And.intro rfl (And.intro rfl (And.intro rfl (And.intro rfl (And.intro rfl (And.intro rfl (And.intro rfl True.intro)))))))) (q11 z1 z3 z5)
      ·
        refine V_iconst dX8_twice_123 ic_1 ?_
        refine V_goto (t := 128) dX8_twice_124 (by decide) ?_
        refine V_istore dX8_twice_128 (Nat.le_of_ble_eq_true rfl) ?_
        refine V_inc dX8_twice_130 ic_1 rfl (Nat.le_of_ble_eq_true rfl) ?_
        refine V_goto (t := 61) dX8_twice_133 (by decide) ?_
        exact V_sub (by exact (And.intro rfl (And.intro rfl (And.intro rfl (And.intro rfl (And.intro rfl (And.intro rfl (And.intro rfl True.intro)))))))) (q12 z1 z3 z5)
theorem tX8_twice_4 {G : gx} {b : bg} {h : ah} {Q : Option Value → ah → Prop} {x1 : Int32} {s0 : Int32} (q1 : (¬ s0 = (0 : Int32)) → V G mX8_twice b 12 [some (.ref 42), some (.int x1)] [.int x1, .ref 42] h Q) (q2 : (s0 = (0 : Int32)) → Q (some (.int (-2 : Int32))) h) : V G mX8_twice b 4 [some (.ref 42), some (.int x1)] [.int s0] h Q := by
  refine V_if_ne (t := 10) dX8_twice_4 (by decide) (fun z1 => ?_) (fun z1 => ?_)
  ·
    refine V_aload_n dX8_twice_10 rfl rfl ?_
    refine V_iload_n dX8_twice_11 rfl rfl ?_
    exact V_sub (by exact (And.intro rfl (And.intro rfl True.intro))) (q1 z1)
  ·
    refine V_bipush dX8_twice_7 bp_m2 ?_
    exact V_iret dX8_twice_9 rfl (q2 z1)
theorem tX8_twice_15 {G : gx} {b : bg} {h : ah} {Q : Option Value → ah → Prop} {x1 : Int32} {s0 : Int32} {mk : Int32} {mn : Int32} {mall : Int32} {msum : Int32} {mexchanges : Int32} {mcycleMany : Int32} {mwhich : Int32} {mlatest : Int32} {mfirstFound : Int32} {mpartMany : Int32} {mlength : Int32} {msizes : Nat → Int32} (g42 : h 42 = (8, .inl [.int mk, .int mn, .int mall, .ref 43, .ref 44, .ref 45, .ref 46, .int msum, .ref 47, .int mexchanges, .ref 48, .ref 49, .ref 50, .ref 51, .int mcycleMany, .ref 52, .int mwhich, .ref 53, .ref 54, .ref 55, .ref 56, .ref 57, .ref 58, .int mlatest, .int mfirstFound, .int mpartMany, .ref 59, .int mlength, .ref 60, .ref 61, .ref 62, .ref 63, .ref 64])) (g56 : h 56 = (0, .inr (4, .inl msizes))) (q1 : (s0 = (0 : Int32)) → vp_in x1 4) (q2 : (s0 = (0 : Int32)) → (¬ (msizes x1.toNatClampNeg) = (0 : Int32)) → V G mX8_twice b 36 [some (.ref 42), some (.int x1), some (.int s0), some (.int (1 : Int32))] [] h Q) (q3 : (s0 = (0 : Int32)) → ((msizes x1.toNatClampNeg) = (0 : Int32)) → Q (some (.int (-3 : Int32))) h) (q4 : (¬ s0 = (0 : Int32)) → Q (some (.int s0)) h) : V G mX8_twice b 15 [some (.ref 42), some (.int x1)] [.int s0] h Q := by
  refine V_istore_n dX8_twice_15 rfl (Nat.le_of_ble_eq_true rfl) ?_
  refine V_iload_n dX8_twice_16 rfl rfl ?_
  refine V_if_eq (t := 22) dX8_twice_17 (by decide) (fun z1 => ?_) (fun z1 => ?_)
  ·
    refine V_aload_n dX8_twice_22 rfl rfl ?_
    refine V_get (ci := 8) (j := 20) (C0 := RX8) (T := TX8) (N := 33) dX8_twice_23 rfl g42 (by decide) (by decide) kf_X8_50 rfl ?_
    refine V_iload_n dX8_twice_26 rfl rfl ?_
    refine V_iald dX8_twice_27 g56 (q1 z1) ?_
    refine V_if_ne (t := 34) dX8_twice_28 (by decide) (fun z2 => ?_) (fun z2 => ?_)
    ·
      refine V_iconst dX8_twice_34 ic_1 ?_
      refine V_istore_n dX8_twice_35 rfl (Nat.le_of_ble_eq_true rfl) ?_
      exact V_sub (by exact (And.intro rfl (And.intro rfl (And.intro rfl (And.intro rfl True.intro))))) (q2 z1 z2)
    ·
      refine V_bipush dX8_twice_31 bp_m3 ?_
      exact V_iret dX8_twice_33 rfl (q3 z1 z2)
  ·
    refine V_iload_n dX8_twice_20 rfl rfl ?_
    exact V_iret dX8_twice_21 rfl (q4 z1)
theorem cX8_twice_1 {G : gx} {d mc ms cc zz d2 mc2 ms2 : Nat} {L : List (Option Value)} {S : List Value} {h : ah} {Q Q2 : Option Value → ah → Prop} {a0 : Value} (hM : Ct G mX8_isTape d2 mc2 ms2 [a0] h Q2) (hdd : d2 < d ∧ d ≤ 9) (hrm : (S.map fun v => v.category).sum ≤ 8) (hf : cc + mc2 ≤ mc ∧ zz + ms2 ≤ ms) (kk : ∀ r h2, Q2 r h2 → V G mX8_twice (d, mc, ms, cc + mc2, zz + ms2) 4 L (r.toList ++ S) h2 Q) : V G mX8_twice (d, mc, ms, cc, zz) 1 L (a0 :: S) h Q := V_callS hM dX8_twice_1 ⟨km_X8_168, kt_X8_isTape⟩ cw_X8_isTape hdd rfl rfl hrm hf kk
theorem cX8_twice_12 {G : gx} {d mc ms cc zz d2 mc2 ms2 : Nat} {L : List (Option Value)} {S : List Value} {h : ah} {Q Q2 : Option Value → ah → Prop} {k : Nat} {fs : List Value} {a0 : Value} (hM : Ct G mX8_noLetters d2 mc2 ms2 (.ref (k + 2) :: [a0]) h Q2) (hc : h (k + 2) = (8, .inl fs)) (hdd : d2 < d ∧ d ≤ 9) (hrm : (S.map fun v => v.category).sum ≤ 8) (hf : cc + mc2 ≤ mc ∧ zz + ms2 ≤ ms) (kk : ∀ r h2, Q2 r h2 → V G mX8_twice (d, mc, ms, cc + mc2, zz + ms2) 15 L (r.toList ++ S) h2 Q) : V G mX8_twice (d, mc, ms, cc, zz) 12 L (a0 :: .ref (k + 2) :: S) h Q := V_callV (ci := 8) (T := TX8) (N := 33) hM dX8_twice_12 ⟨km_X8_186, ki_X8_noLetters, ks_X8_noLetters⟩ cw_X8_noLetters rfl hc (by decide) hdd rfl rfl hrm hf kk
theorem tX8_parts_0 {G : gx} {b : bg} {h : ah} {Q : Option Value → ah → Prop} {x1 : Int32} (q1 : V G mX8_parts b 1 [some (.ref 42), some (.int x1)] [.int x1] h Q) : V G mX8_parts b 0 [some (.ref 42), some (.int x1)] [] h Q := by
  refine V_iload_n dX8_parts_0 rfl rfl ?_
  exact V_sub (by exact (And.intro rfl (And.intro rfl True.intro))) (q1)
theorem tX8_parts_35 {G : gx} {b : bg} {h : ah} {Q : Option Value → ah → Prop} {x1 : Int32} {x2 : Int32} {x3 : Int32} {x4 : Int32} {x5 : Int32} {mk : Int32} {mn : Int32} {mall : Int32} {msum : Int32} {mexchanges : Int32} {mcycleMany : Int32} {mwhich : Int32} {mlatest : Int32} {mfirstFound : Int32} {mpartMany : Int32} {mlength : Int32} (g42 : h 42 = (8, .inl [.int mk, .int mn, .int mall, .ref 43, .ref 44, .ref 45, .ref 46, .int msum, .ref 47, .int mexchanges, .ref 48, .ref 49, .ref 50, .ref 51, .int mcycleMany, .ref 52, .int mwhich, .ref 53, .ref 54, .ref 55, .ref 56, .ref 57, .ref 58, .int mlatest, .int mfirstFound, .int mpartMany, .ref 59, .int mlength, .ref 60, .ref 61, .ref 62, .ref 63, .ref 64])) (q1 : (x3 ≤ x5) → (x4 ≤ (0 : Int32)) → Q (some (.int x4)) (va_up h 42 (8, .inl [.int mk, .int mn, .int mall, .ref 43, .ref 44, .ref 45, .ref 46, .int msum, .ref 47, .int mexchanges, .ref 48, .ref 49, .ref 50, .ref 51, .int mcycleMany, .ref 52, .int mwhich, .ref 53, .ref 54, .ref 55, .ref 56, .ref 57, .ref 58, .int mlatest, .int mfirstFound, .int mpartMany, .ref 59, .int mlength, .ref 60, .ref 61, .ref 62, .ref 63, .ref 64]))) (q2 : (x3 ≤ x5) → (¬ x4 ≤ (0 : Int32)) → Q (some (.int x4)) (va_up h 42 (8, .inl [.int mk, .int mn, .int mall, .ref 43, .ref 44, .ref 45, .ref 46, .int msum, .ref 47, .int mexchanges, .ref 48, .ref 49, .ref 50, .ref 51, .int mcycleMany, .ref 52, .int mwhich, .ref 53, .ref 54, .ref 55, .ref 56, .ref 57, .ref 58, .int mlatest, .int mfirstFound, .int x4, .ref 59, .int mlength, .ref 60, .ref 61, .ref 62, .ref 63, .ref 64]))) (q3 : (¬ x3 ≤ x5) → V G mX8_parts b 51 [some (.ref 42), some (.int x1), some (.int x2), some (.int x3), some (.int x4), some (.int x5), some (.int (x5 + (1 : Int32))), some (.int x5)] [] h Q) : V G mX8_parts b 35 [some (.ref 42), some (.int x1), some (.int x2), some (.int x3), some (.int x4), some (.int x5)] [] h Q := by
  refine V_iload dX8_parts_35 rfl ?_
  refine V_iload_n dX8_parts_37 rfl rfl ?_
  refine V_icmp_ge (t := 167) dX8_parts_38 (by decide) (fun z1 => ?_) (fun z1 => ?_)
  ·
    refine V_aload_n dX8_parts_167 rfl rfl ?_
    refine V_iload dX8_parts_168 rfl ?_
    refine V_if_le (t := 178) dX8_parts_170 (by decide) (fun z2 => ?_) (fun z2 => ?_)
    ·
      refine V_aload_n dX8_parts_178 rfl rfl ?_
      refine V_get (ci := 8) (j := 25) (C0 := RX8) (T := TX8) (N := 33) dX8_parts_179 rfl g42 (by decide) (by decide) kf_X8_189 rfl ?_
      refine V_put (ci := 8) (j := 25) (C0 := RX8) (T := TX8) (N := 33) (ty := .int) dX8_parts_182 rfl g42 (by decide) (by decide) kf_X8_189 rfl (by decide +kernel) rfl rfl (Nat.le_of_ble_eq_true rfl) ?_
      refine V_iload dX8_parts_185 rfl ?_
      exact V_iret dX8_parts_187 rfl (q1 z1 z2)
    ·
      refine V_iload dX8_parts_173 rfl ?_
      refine V_goto (t := 182) dX8_parts_175 (by decide) ?_
      refine V_put (ci := 8) (j := 25) (C0 := RX8) (T := TX8) (N := 33) (ty := .int) dX8_parts_182 rfl g42 (by decide) (by decide) kf_X8_189 rfl (by decide +kernel) rfl rfl (Nat.le_of_ble_eq_true rfl) ?_
      refine V_iload dX8_parts_185 rfl ?_
      exact V_iret dX8_parts_187 rfl (q2 z1 z2)
  ·
    refine V_iload dX8_parts_41 rfl ?_
    refine V_iconst dX8_parts_43 ic_1 ?_
    refine V_iadd dX8_parts_44 ?_
    refine V_istore dX8_parts_45 (Nat.le_of_ble_eq_true rfl) ?_
    refine V_iload dX8_parts_47 rfl ?_
    refine V_istore dX8_parts_49 (Nat.le_of_ble_eq_true rfl) ?_
    exact V_sub (by exact (And.intro rfl (And.intro rfl (And.intro rfl (And.intro rfl (And.intro rfl (And.intro rfl (And.intro rfl (And.intro rfl True.intro))))))))) (q3 z1)
theorem tX8_parts_51 {G : gx} {b : bg} {h : ah} {Q : Option Value → ah → Prop} {x1 : Int32} {x2 : Int32} {x3 : Int32} {x4 : Int32} {x5 : Int32} {x6 : Int32} {x7 : Int32} {mk : Int32} {mn : Int32} {mall : Int32} {msum : Int32} {mexchanges : Int32} {mcycleMany : Int32} {mwhich : Int32} {mlatest : Int32} {mfirstFound : Int32} {mpartMany : Int32} {mlength : Int32} {mitems : Nat → Int32} (g42 : h 42 = (8, .inl [.int mk, .int mn, .int mall, .ref 43, .ref 44, .ref 45, .ref 46, .int msum, .ref 47, .int mexchanges, .ref 48, .ref 49, .ref 50, .ref 51, .int mcycleMany, .ref 52, .int mwhich, .ref 53, .ref 54, .ref 55, .ref 56, .ref 57, .ref 58, .int mlatest, .int mfirstFound, .int mpartMany, .ref 59, .int mlength, .ref 60, .ref 61, .ref 62, .ref 63, .ref 64])) (g57 : h 57 = (0, .inr (800, .inl mitems))) (q1 : (x3 ≤ x6) → V G mX8_parts b 132 [some (.ref 42), some (.int x1), some (.int x2), some (.int x3), some (.int x4), some (.int x5), some (.int x6), some (.int x7)] [] h Q) (q2 : (¬ x3 ≤ x6) → vp_in (((200 : Int32) * x1) + x7) 800) (q3 : (¬ x3 ≤ x6) → vp_in (((200 : Int32) * x1) + x6) 800) (q4 : (¬ x3 ≤ x6) → ((mitems (((200 : Int32) * x1) + x6).toNatClampNeg) < (mitems (((200 : Int32) * x1) + x7).toNatClampNeg)) → V G mX8_parts b 132 [some (.ref 42), some (.int x1), some (.int x2), some (.int x3), some (.int x4), some (.int x5), some (.int x6), some (.int x7)] [] h Q) (q5 : (¬ x3 ≤ x6) → (¬ (mitems (((200 : Int32) * x1) + x6).toNatClampNeg) < (mitems (((200 : Int32) * x1) + x7).toNatClampNeg)) → vp_in (((200 : Int32) * x1) + x7) 800) (q6 : (¬ x3 ≤ x6) → (¬ (mitems (((200 : Int32) * x1) + x6).toNatClampNeg) < (mitems (((200 : Int32) * x1) + x7).toNatClampNeg)) → vp_in (((200 : Int32) * x1) + x6) 800) (q7 : (¬ x3 ≤ x6) → (¬ (mitems (((200 : Int32) * x1) + x6).toNatClampNeg) < (mitems (((200 : Int32) * x1) + x7).toNatClampNeg)) → ((mitems (((200 : Int32) * x1) + x6).toNatClampNeg) ≤ (mitems (((200 : Int32) * x1) + x7).toNatClampNeg)) → V G mX8_parts b 51 [some (.ref 42), some (.int x1), some (.int x2), some (.int x3), some (.int x4), some (.int x5), some (.int (x6 + (1 : Int32))), some (.int (x7 + (1 : Int32)))] [] h Q) (q8 : (¬ x3 ≤ x6) → (¬ (mitems (((200 : Int32) * x1) + x6).toNatClampNeg) < (mitems (((200 : Int32) * x1) + x7).toNatClampNeg)) → (¬ (mitems (((200 : Int32) * x1) + x6).toNatClampNeg) ≤ (mitems (((200 : Int32) * x1) + x7).toNatClampNeg)) → V G mX8_parts b 51 [some (.ref 42), some (.int x1), some (.int x2), some (.int x3), some (.int x4), some (.int x5), some (.int (x6 + (1 : Int32))), some (.int x5)] [] h Q) : V G mX8_parts b 51 [some (.ref 42), some (.int x1), some (.int x2), some (.int x3), some (.int x4), some (.int x5), some (.int x6), some (.int x7)] [] h Q := by
  refine V_iload dX8_parts_51 rfl ?_
  refine V_iload_n dX8_parts_53 rfl rfl ?_
  refine V_icmp_ge (t := 132) dX8_parts_54 (by decide) (fun z1 => ?_) (fun z1 => ?_)
  ·
    exact V_sub (by exact (And.intro rfl (And.intro rfl (And.intro rfl (And.intro rfl (And.intro rfl (And.intro rfl (And.intro rfl (And.intro rfl True.intro))))))))) (q1 z1)
  ·
    refine V_aload_n dX8_parts_57 rfl rfl ?_
    refine V_get (ci := 8) (j := 21) (C0 := RX8) (T := TX8) (N := 33) dX8_parts_58 rfl g42 (by decide) (by decide) kf_X8_53 rfl ?_
    refine V_sipush dX8_parts_61 sp_200 ?_
    refine V_iload_n dX8_parts_64 rfl rfl ?_
    refine V_imul dX8_parts_65 ?_
    refine V_iload dX8_parts_66 rfl ?_
    refine V_iadd dX8_parts_68 ?_
    refine V_iald dX8_parts_69 g57 (q2 z1) ?_
    refine V_aload_n dX8_parts_70 rfl rfl ?_
    refine V_get (ci := 8) (j := 21) (C0 := RX8) (T := TX8) (N := 33) dX8_parts_71 rfl g42 (by decide) (by decide) kf_X8_53 rfl ?_
    refine V_sipush dX8_parts_74 sp_200 ?_
    refine V_iload_n dX8_parts_77 rfl rfl ?_
    refine V_imul dX8_parts_78 ?_
    refine V_iload dX8_parts_79 rfl ?_
    refine V_iadd dX8_parts_81 ?_
    refine V_iald dX8_parts_82 g57 (q3 z1) ?_
    refine V_icmp_gt (t := 132) dX8_parts_83 (by decide) (fun z2 => ?_) (fun z2 => ?_)
    ·
      exact V_sub (by exact (And.intro rfl (And.intro rfl (And.intro rfl (And.intro rfl (And.intro rfl (And.intro rfl (And.intro rfl (And.intro rfl True.intro))))))))) (q4 z1 z2)
    ·
      refine V_aload_n dX8_parts_86 rfl rfl ?_
      refine V_get (ci := 8) (j := 21) (C0 := RX8) (T := TX8) (N := 33) dX8_parts_87 rfl g42 (by decide) (by decide) kf_X8_53 rfl ?_
      refine V_sipush dX8_parts_90 sp_200 ?_
      refine V_iload_n dX8_parts_93 rfl rfl ?_
      refine V_imul dX8_parts_94 ?_
      refine V_iload dX8_parts_95 rfl ?_
      refine V_iadd dX8_parts_97 ?_
      refine V_iald dX8_parts_98 g57 (q5 z1 z2) ?_
      refine V_aload_n dX8_parts_99 rfl rfl ?_
      refine V_get (ci := 8) (j := 21) (C0 := RX8) (T := TX8) (N := 33) dX8_parts_100 rfl g42 (by decide) (by decide) kf_X8_53 rfl ?_
      refine V_sipush dX8_parts_103 sp_200 ?_
      refine V_iload_n dX8_parts_106 rfl rfl ?_
      refine V_imul dX8_parts_107 ?_
      refine V_iload dX8_parts_108 rfl ?_
      refine V_iadd dX8_parts_110 ?_
      refine V_iald dX8_parts_111 g57 (q6 z1 z2) ?_
      refine V_icmp_ge (t := 120) dX8_parts_112 (by decide) (fun z3 => ?_) (fun z3 => ?_)
      ·
        refine V_iload dX8_parts_120 rfl ?_
        refine V_iconst dX8_parts_122 ic_1 ?_
        refine V_iadd dX8_parts_123 ?_
        refine V_istore dX8_parts_124 (Nat.le_of_ble_eq_true rfl) ?_
        refine V_inc dX8_parts_126 ic_1 rfl (Nat.le_of_ble_eq_true rfl) ?_
        refine V_goto (t := 51) dX8_parts_129 (by decide) ?_
        exact V_sub (by exact (And.intro rfl (And.intro rfl (And.intro rfl (And.intro rfl (And.intro rfl (And.intro rfl (And.intro rfl (And.intro rfl True.intro))))))))) (q7 z1 z2 z3)
      ·
        refine V_iload dX8_parts_115 rfl ?_
        refine V_goto (t := 124) dX8_parts_117 (by decide) ?_
        refine V_istore dX8_parts_124 (Nat.le_of_ble_eq_true rfl) ?_
        refine V_inc dX8_parts_126 ic_1 rfl (Nat.le_of_ble_eq_true rfl) ?_
        refine V_goto (t := 51) dX8_parts_129 (by decide) ?_
        exact V_sub (by exact (And.intro rfl (And.intro rfl (And.intro rfl (And.intro rfl (And.intro rfl (And.intro rfl (And.intro rfl (And.intro rfl True.intro))))))))) (q8 z1 z2 z3)
theorem tX8_parts_132 {G : gx} {b : bg} {h : ah} {Q : Option Value → ah → Prop} {x1 : Int32} {x2 : Int32} {x3 : Int32} {x4 : Int32} {x5 : Int32} {x6 : Int32} {x7 : Int32} {mk : Int32} {mn : Int32} {mall : Int32} {msum : Int32} {mexchanges : Int32} {mcycleMany : Int32} {mwhich : Int32} {mlatest : Int32} {mfirstFound : Int32} {mpartMany : Int32} {mlength : Int32} {mpartAt : Nat → Int32} (g42 : h 42 = (8, .inl [.int mk, .int mn, .int mall, .ref 43, .ref 44, .ref 45, .ref 46, .int msum, .ref 47, .int mexchanges, .ref 48, .ref 49, .ref 50, .ref 51, .int mcycleMany, .ref 52, .int mwhich, .ref 53, .ref 54, .ref 55, .ref 56, .ref 57, .ref 58, .int mlatest, .int mfirstFound, .int mpartMany, .ref 59, .int mlength, .ref 60, .ref 61, .ref 62, .ref 63, .ref 64])) (g59 : h 59 = (0, .inr (200, .inl mpartAt))) (q1 : (x7 < x5) → V G mX8_parts b 35 [some (.ref 42), some (.int x1), some (.int x2), some (.int x3), some (.int x4), some (.int x5)] [] h Q) (q2 : (¬ x7 < x5) → vp_in x4 200) (q3 : (¬ x7 < x5) → V G mX8_parts b 132 [some (.ref 42), some (.int x1), some (.int x2), some (.int x3), some (.int (x4 + (1 : Int32))), some (.int (x5 + (x6 - x7))), some (.int x6), some (.int x7)] [] (va_up h 59 (0, .inr (200, .inl (upd mpartAt x4.toNatClampNeg x5)))) Q) : V G mX8_parts b 132 [some (.ref 42), some (.int x1), some (.int x2), some (.int x3), some (.int x4), some (.int x5), some (.int x6), some (.int x7)] [] h Q := by
  refine V_iload dX8_parts_132 rfl ?_
  refine V_iload dX8_parts_134 rfl ?_
  refine V_icmp_gt (t := 164) dX8_parts_136 (by decide) (fun z1 => ?_) (fun z1 => ?_)
  ·
    refine V_goto (t := 35) dX8_parts_164 (by decide) ?_
    exact V_sub (by exact (And.intro rfl (And.intro rfl (And.intro rfl (And.intro rfl (And.intro rfl (And.intro rfl True.intro))))))) (q1 z1)
  ·
    refine V_aload_n dX8_parts_139 rfl rfl ?_
    refine V_get (ci := 8) (j := 26) (C0 := RX8) (T := TX8) (N := 33) dX8_parts_140 rfl g42 (by decide) (by decide) kf_X8_59 rfl ?_
    refine V_iload dX8_parts_143 rfl ?_
    refine V_iload dX8_parts_145 rfl ?_
    refine V_iast dX8_parts_147 g59 (q2 z1) ?_
    refine V_inc dX8_parts_148 ic_1 rfl (Nat.le_of_ble_eq_true rfl) ?_
    refine V_iload dX8_parts_151 rfl ?_
    refine V_iload dX8_parts_153 rfl ?_
    refine V_iload dX8_parts_155 rfl ?_
    refine V_isub dX8_parts_157 ?_
    refine V_iadd dX8_parts_158 ?_
    refine V_istore dX8_parts_159 (Nat.le_of_ble_eq_true rfl) ?_
    refine V_goto (t := 132) dX8_parts_161 (by decide) ?_
    exact V_sub (by exact (And.intro rfl (And.intro rfl (And.intro rfl (And.intro rfl (And.intro rfl (And.intro rfl (And.intro rfl (And.intro rfl True.intro))))))))) (q3 z1)
theorem tX8_parts_4 {G : gx} {b : bg} {h : ah} {Q : Option Value → ah → Prop} {x1 : Int32} {s0 : Int32} (q1 : (¬ s0 = (0 : Int32)) → V G mX8_parts b 12 [some (.ref 42), some (.int x1)] [.int x1, .ref 42] h Q) (q2 : (s0 = (0 : Int32)) → Q (some (.int (-2 : Int32))) h) : V G mX8_parts b 4 [some (.ref 42), some (.int x1)] [.int s0] h Q := by
  refine V_if_ne (t := 10) dX8_parts_4 (by decide) (fun z1 => ?_) (fun z1 => ?_)
  ·
    refine V_aload_n dX8_parts_10 rfl rfl ?_
    refine V_iload_n dX8_parts_11 rfl rfl ?_
    exact V_sub (by exact (And.intro rfl (And.intro rfl True.intro))) (q1 z1)
  ·
    refine V_bipush dX8_parts_7 bp_m2 ?_
    exact V_iret dX8_parts_9 rfl (q2 z1)
theorem tX8_parts_15 {G : gx} {b : bg} {h : ah} {Q : Option Value → ah → Prop} {x1 : Int32} {s0 : Int32} {mk : Int32} {mn : Int32} {mall : Int32} {msum : Int32} {mexchanges : Int32} {mcycleMany : Int32} {mwhich : Int32} {mlatest : Int32} {mfirstFound : Int32} {mpartMany : Int32} {mlength : Int32} {msizes : Nat → Int32} (g42 : h 42 = (8, .inl [.int mk, .int mn, .int mall, .ref 43, .ref 44, .ref 45, .ref 46, .int msum, .ref 47, .int mexchanges, .ref 48, .ref 49, .ref 50, .ref 51, .int mcycleMany, .ref 52, .int mwhich, .ref 53, .ref 54, .ref 55, .ref 56, .ref 57, .ref 58, .int mlatest, .int mfirstFound, .int mpartMany, .ref 59, .int mlength, .ref 60, .ref 61, .ref 62, .ref 63, .ref 64])) (g56 : h 56 = (0, .inr (4, .inl msizes))) (q1 : (s0 = (0 : Int32)) → vp_in x1 4) (q2 : (s0 = (0 : Int32)) → V G mX8_parts b 35 [some (.ref 42), some (.int x1), some (.int s0), some (.int (msizes x1.toNatClampNeg)), some (.int (0 : Int32)), some (.int (0 : Int32))] [] h Q) (q3 : (¬ s0 = (0 : Int32)) → Q (some (.int s0)) h) : V G mX8_parts b 15 [some (.ref 42), some (.int x1)] [.int s0] h Q := by
  refine V_istore_n dX8_parts_15 rfl (Nat.le_of_ble_eq_true rfl) ?_
  refine V_iload_n dX8_parts_16 rfl rfl ?_
  refine V_if_eq (t := 22) dX8_parts_17 (by decide) (fun z1 => ?_) (fun z1 => ?_)
  ·
    refine V_aload_n dX8_parts_22 rfl rfl ?_
    refine V_get (ci := 8) (j := 20) (C0 := RX8) (T := TX8) (N := 33) dX8_parts_23 rfl g42 (by decide) (by decide) kf_X8_50 rfl ?_
    refine V_iload_n dX8_parts_26 rfl rfl ?_
    refine V_iald dX8_parts_27 g56 (q1 z1) ?_
    refine V_istore_n dX8_parts_28 rfl (Nat.le_of_ble_eq_true rfl) ?_
    refine V_iconst dX8_parts_29 ic_0 ?_
    refine V_istore dX8_parts_30 (Nat.le_of_ble_eq_true rfl) ?_
    refine V_iconst dX8_parts_32 ic_0 ?_
    refine V_istore dX8_parts_33 (Nat.le_of_ble_eq_true rfl) ?_
    exact V_sub (by exact (And.intro rfl (And.intro rfl (And.intro rfl (And.intro rfl (And.intro rfl (And.intro rfl True.intro))))))) (q2 z1)
  ·
    refine V_iload_n dX8_parts_20 rfl rfl ?_
    exact V_iret dX8_parts_21 rfl (q3 z1)
theorem cX8_parts_1 {G : gx} {d mc ms cc zz d2 mc2 ms2 : Nat} {L : List (Option Value)} {S : List Value} {h : ah} {Q Q2 : Option Value → ah → Prop} {a0 : Value} (hM : Ct G mX8_isTape d2 mc2 ms2 [a0] h Q2) (hdd : d2 < d ∧ d ≤ 9) (hrm : (S.map fun v => v.category).sum ≤ 8) (hf : cc + mc2 ≤ mc ∧ zz + ms2 ≤ ms) (kk : ∀ r h2, Q2 r h2 → V G mX8_parts (d, mc, ms, cc + mc2, zz + ms2) 4 L (r.toList ++ S) h2 Q) : V G mX8_parts (d, mc, ms, cc, zz) 1 L (a0 :: S) h Q := V_callS hM dX8_parts_1 ⟨km_X8_168, kt_X8_isTape⟩ cw_X8_isTape hdd rfl rfl hrm hf kk
theorem cX8_parts_12 {G : gx} {d mc ms cc zz d2 mc2 ms2 : Nat} {L : List (Option Value)} {S : List Value} {h : ah} {Q Q2 : Option Value → ah → Prop} {k : Nat} {fs : List Value} {a0 : Value} (hM : Ct G mX8_noLetters d2 mc2 ms2 (.ref (k + 2) :: [a0]) h Q2) (hc : h (k + 2) = (8, .inl fs)) (hdd : d2 < d ∧ d ≤ 9) (hrm : (S.map fun v => v.category).sum ≤ 8) (hf : cc + mc2 ≤ mc ∧ zz + ms2 ≤ ms) (kk : ∀ r h2, Q2 r h2 → V G mX8_parts (d, mc, ms, cc + mc2, zz + ms2) 15 L (r.toList ++ S) h2 Q) : V G mX8_parts (d, mc, ms, cc, zz) 12 L (a0 :: .ref (k + 2) :: S) h Q := V_callV (ci := 8) (T := TX8) (N := 33) hM dX8_parts_12 ⟨km_X8_186, ki_X8_noLetters, ks_X8_noLetters⟩ cw_X8_noLetters rfl hc (by decide) hdd rfl rfl hrm hf kk
theorem tX8_part_0 {G : gx} {b : bg} {h : ah} {Q : Option Value → ah → Prop} {x1 : Int32} {mk : Int32} {mn : Int32} {mall : Int32} {msum : Int32} {mexchanges : Int32} {mcycleMany : Int32} {mwhich : Int32} {mlatest : Int32} {mfirstFound : Int32} {mpartMany : Int32} {mlength : Int32} (g42 : h 42 = (8, .inl [.int mk, .int mn, .int mall, .ref 43, .ref 44, .ref 45, .ref 46, .int msum, .ref 47, .int mexchanges, .ref 48, .ref 49, .ref 50, .ref 51, .int mcycleMany, .ref 52, .int mwhich, .ref 53, .ref 54, .ref 55, .ref 56, .ref 57, .ref 58, .int mlatest, .int mfirstFound, .int mpartMany, .ref 59, .int mlength, .ref 60, .ref 61, .ref 62, .ref 63, .ref 64])) (q1 : V G mX8_part b 10 [some (.ref 42), some (.int x1)] [.long ((mpartMany - (1 : Int32)).toInt64), .long (0 : Int64), .long (x1.toInt64)] h Q) : V G mX8_part b 0 [some (.ref 42), some (.int x1)] [] h Q := by
  refine V_iload_n dX8_part_0 rfl rfl ?_
  refine V_i2l dX8_part_1 ?_
  refine V_lconst dX8_part_2 lc_0 ?_
  refine V_aload_n dX8_part_3 rfl rfl ?_
  refine V_get (ci := 8) (j := 25) (C0 := RX8) (T := TX8) (N := 33) dX8_part_4 rfl g42 (by decide) (by decide) kf_X8_189 rfl ?_
  refine V_iconst dX8_part_7 ic_1 ?_
  refine V_isub dX8_part_8 ?_
  refine V_i2l dX8_part_9 ?_
  exact V_sub (by exact (And.intro rfl (And.intro rfl True.intro))) (q1)
theorem tX8_part_13 {G : gx} {b : bg} {h : ah} {Q : Option Value → ah → Prop} {x1 : Int32} {s0 : Int32} {mk : Int32} {mn : Int32} {mall : Int32} {msum : Int32} {mexchanges : Int32} {mcycleMany : Int32} {mwhich : Int32} {mlatest : Int32} {mfirstFound : Int32} {mpartMany : Int32} {mlength : Int32} {mpartAt : Nat → Int32} (g42 : h 42 = (8, .inl [.int mk, .int mn, .int mall, .ref 43, .ref 44, .ref 45, .ref 46, .int msum, .ref 47, .int mexchanges, .ref 48, .ref 49, .ref 50, .ref 51, .int mcycleMany, .ref 52, .int mwhich, .ref 53, .ref 54, .ref 55, .ref 56, .ref 57, .ref 58, .int mlatest, .int mfirstFound, .int mpartMany, .ref 59, .int mlength, .ref 60, .ref 61, .ref 62, .ref 63, .ref 64])) (g59 : h 59 = (0, .inr (200, .inl mpartAt))) (q1 : (s0 = (0 : Int32)) → Q (some (.int (-2 : Int32))) h) (q2 : (¬ s0 = (0 : Int32)) → vp_in x1 200) (q3 : (¬ s0 = (0 : Int32)) → Q (some (.int (mpartAt x1.toNatClampNeg))) h) : V G mX8_part b 13 [some (.ref 42), some (.int x1)] [.int s0] h Q := by
  refine V_if_eq (t := 25) dX8_part_13 (by decide) (fun z1 => ?_) (fun z1 => ?_)
  ·
    refine V_bipush dX8_part_25 bp_m2 ?_
    exact V_iret dX8_part_27 rfl (q1 z1)
  ·
    refine V_aload_n dX8_part_16 rfl rfl ?_
    refine V_get (ci := 8) (j := 26) (C0 := RX8) (T := TX8) (N := 33) dX8_part_17 rfl g42 (by decide) (by decide) kf_X8_59 rfl ?_
    refine V_iload_n dX8_part_20 rfl rfl ?_
    refine V_iald dX8_part_21 g59 (q2 z1) ?_
    refine V_goto (t := 27) dX8_part_22 (by decide) ?_
    exact V_iret dX8_part_27 rfl (q3 z1)
theorem cX8_part_10 {G : gx} {d mc ms cc zz d2 mc2 ms2 : Nat} {L : List (Option Value)} {S : List Value} {h : ah} {Q Q2 : Option Value → ah → Prop} {a0 a1 a2 : Value} (hM : Ct G mX8_in d2 mc2 ms2 [a0, a1, a2] h Q2) (hdd : d2 < d ∧ d ≤ 9) (hrm : (S.map fun v => v.category).sum ≤ 8) (hf : cc + mc2 ≤ mc ∧ zz + ms2 ≤ ms) (kk : ∀ r h2, Q2 r h2 → V G mX8_part (d, mc, ms, cc + mc2, zz + ms2) 13 L (r.toList ++ S) h2 Q) : V G mX8_part (d, mc, ms, cc, zz) 10 L (a2 :: a1 :: a0 :: S) h Q := V_callS hM dX8_part_10 ⟨km_X8_86, kt_X8_in⟩ cw_X8_in hdd rfl rfl hrm hf kk
theorem tX8_inverse_0 {G : gx} {b : bg} {h : ah} {Q : Option Value → ah → Prop} {x1 : Int32} (q1 : V G mX8_inverse b 2 [some (.ref 42), some (.int x1), some (.int (1 : Int32))] [] h Q) : V G mX8_inverse b 0 [some (.ref 42), some (.int x1)] [] h Q := by
  refine V_iconst dX8_inverse_0 ic_1 ?_
  refine V_istore_n dX8_inverse_1 rfl (Nat.le_of_ble_eq_true rfl) ?_
  exact V_sub (by exact (And.intro rfl (And.intro rfl (And.intro rfl True.intro)))) (q1)
theorem tX8_inverse_2 {G : gx} {b : bg} {h : ah} {Q : Option Value → ah → Prop} {x1 : Int32} {x2 : Int32} {mk : Int32} {mn : Int32} {mall : Int32} {msum : Int32} {mexchanges : Int32} {mcycleMany : Int32} {mwhich : Int32} {mlatest : Int32} {mfirstFound : Int32} {mpartMany : Int32} {mlength : Int32} (g42 : h 42 = (8, .inl [.int mk, .int mn, .int mall, .ref 43, .ref 44, .ref 45, .ref 46, .int msum, .ref 47, .int mexchanges, .ref 48, .ref 49, .ref 50, .ref 51, .int mcycleMany, .ref 52, .int mwhich, .ref 53, .ref 54, .ref 55, .ref 56, .ref 57, .ref 58, .int mlatest, .int mfirstFound, .int mpartMany, .ref 59, .int mlength, .ref 60, .ref 61, .ref 62, .ref 63, .ref 64])) (q1 : ¬ mk = 0) (q2 : (((x2 * x1) - (x2 * x1) / mk * mk) = (1 : Int32)) → Q (some (.int x2)) h) (q3 : (¬ ((x2 * x1) - (x2 * x1) / mk * mk) = (1 : Int32)) → V G mX8_inverse b 2 [some (.ref 42), some (.int x1), some (.int (x2 + (1 : Int32)))] [] h Q) : V G mX8_inverse b 2 [some (.ref 42), some (.int x1), some (.int x2)] [] h Q := by
  refine V_iload_n dX8_inverse_2 rfl rfl ?_
  refine V_iload_n dX8_inverse_3 rfl rfl ?_
  refine V_imul dX8_inverse_4 ?_
  refine V_aload_n dX8_inverse_5 rfl rfl ?_
  refine V_get (ci := 8) (j := 0) (C0 := RX8) (T := TX8) (N := 33) dX8_inverse_6 rfl g42 (by decide) (by decide) kf_X8_92 rfl ?_
  refine V_irem dX8_inverse_9 (q1) ?_
  refine V_iconst dX8_inverse_10 ic_1 ?_
  refine V_icmp_eq (t := 20) dX8_inverse_11 (by decide) (fun z1 => ?_) (fun z1 => ?_)
  ·
    refine V_iload_n dX8_inverse_20 rfl rfl ?_
    exact V_iret dX8_inverse_21 rfl (q2 z1)
  ·
    refine V_inc dX8_inverse_14 ic_1 rfl (Nat.le_of_ble_eq_true rfl) ?_
    refine V_goto (t := 2) dX8_inverse_17 (by decide) ?_
    exact V_sub (by exact (And.intro rfl (And.intro rfl (And.intro rfl True.intro)))) (q3 z1)
theorem tX8_leastLength_0 {G : gx} {b : bg} {h : ah} {Q : Option Value → ah → Prop} {x1 : Int32} {mk : Int32} {mn : Int32} {mall : Int32} {msum : Int32} {mexchanges : Int32} {mcycleMany : Int32} {mwhich : Int32} {mlatest : Int32} {mfirstFound : Int32} {mpartMany : Int32} {mlength : Int32} {msizes : Nat → Int32} (g42 : h 42 = (8, .inl [.int mk, .int mn, .int mall, .ref 43, .ref 44, .ref 45, .ref 46, .int msum, .ref 47, .int mexchanges, .ref 48, .ref 49, .ref 50, .ref 51, .int mcycleMany, .ref 52, .int mwhich, .ref 53, .ref 54, .ref 55, .ref 56, .ref 57, .ref 58, .int mlatest, .int mfirstFound, .int mpartMany, .ref 59, .int mlength, .ref 60, .ref 61, .ref 62, .ref 63, .ref 64])) (g56 : h 56 = (0, .inr (4, .inl msizes))) (q1 : vp_in x1 4) (q2 : V G mX8_leastLength b 9 [some (.ref 42), some (.int x1), some (.int (msizes x1.toNatClampNeg)), some (.int (0 : Int32))] [] h Q) : V G mX8_leastLength b 0 [some (.ref 42), some (.int x1)] [] h Q := by
  refine V_aload_n dX8_leastLength_0 rfl rfl ?_
  refine V_get (ci := 8) (j := 20) (C0 := RX8) (T := TX8) (N := 33) dX8_leastLength_1 rfl g42 (by decide) (by decide) kf_X8_50 rfl ?_
  refine V_iload_n dX8_leastLength_4 rfl rfl ?_
  refine V_iald dX8_leastLength_5 g56 (q1) ?_
  refine V_istore_n dX8_leastLength_6 rfl (Nat.le_of_ble_eq_true rfl) ?_
  refine V_iconst dX8_leastLength_7 ic_0 ?_
  refine V_istore_n dX8_leastLength_8 rfl (Nat.le_of_ble_eq_true rfl) ?_
  exact V_sub (by exact (And.intro rfl (And.intro rfl (And.intro rfl (And.intro rfl True.intro))))) (q2)
theorem tX8_leastLength_9 {G : gx} {b : bg} {h : ah} {Q : Option Value → ah → Prop} {x1 : Int32} {x2 : Int32} {x3 : Int32} {mk : Int32} {mn : Int32} {mall : Int32} {msum : Int32} {mexchanges : Int32} {mcycleMany : Int32} {mwhich : Int32} {mlatest : Int32} {mfirstFound : Int32} {mpartMany : Int32} {mlength : Int32} {mnow : Nat → Int32} {mbefore : Nat → Int32} (g42 : h 42 = (8, .inl [.int mk, .int mn, .int mall, .ref 43, .ref 44, .ref 45, .ref 46, .int msum, .ref 47, .int mexchanges, .ref 48, .ref 49, .ref 50, .ref 51, .int mcycleMany, .ref 52, .int mwhich, .ref 53, .ref 54, .ref 55, .ref 56, .ref 57, .ref 58, .int mlatest, .int mfirstFound, .int mpartMany, .ref 59, .int mlength, .ref 60, .ref 61, .ref 62, .ref 63, .ref 64])) (g61 : h 61 = (0, .inr (202, .inl mnow))) (g62 : h 62 = (0, .inr (202, .inl mbefore))) (q1 : ((202 : Int32) ≤ x3) → V G mX8_leastLength b 63 [some (.ref 42), some (.int x1), some (.int x2), some (.int (0 : Int32)), some (.int (1 : Int32)), some (.int (1 : Int32)), some (.int (0 : Int32))] [] h Q) (q2 : (¬ (202 : Int32) ≤ x3) → (¬ x3 = (0 : Int32)) → vp_in x3 202) (q3 : (¬ (202 : Int32) ≤ x3) → (¬ x3 = (0 : Int32)) → (¬ x3 = (0 : Int32)) → vp_in x3 202) (q4 : (¬ (202 : Int32) ≤ x3) → (¬ x3 = (0 : Int32)) → (¬ x3 = (0 : Int32)) → V G mX8_leastLength b 9 [some (.ref 42), some (.int x1), some (.int x2), some (.int (x3 + (1 : Int32)))] [] (va_up (va_up h 61 (0, .inr (202, .inl (upd mnow x3.toNatClampNeg (0 : Int32))))) 62 (0, .inr (202, .inl (upd mbefore x3.toNatClampNeg (0 : Int32))))) Q) (q5 : (¬ (202 : Int32) ≤ x3) → (¬ x3 = (0 : Int32)) → (x3 = (0 : Int32)) → vp_in x3 202) (q6 : (¬ (202 : Int32) ≤ x3) → (¬ x3 = (0 : Int32)) → (x3 = (0 : Int32)) → V G mX8_leastLength b 9 [some (.ref 42), some (.int x1), some (.int x2), some (.int (x3 + (1 : Int32)))] [] (va_up (va_up h 61 (0, .inr (202, .inl (upd mnow x3.toNatClampNeg (0 : Int32))))) 62 (0, .inr (202, .inl (upd mbefore x3.toNatClampNeg (1 : Int32))))) Q) (q7 : (¬ (202 : Int32) ≤ x3) → (x3 = (0 : Int32)) → vp_in x3 202) (q8 : (¬ (202 : Int32) ≤ x3) → (x3 = (0 : Int32)) → (¬ x3 = (0 : Int32)) → vp_in x3 202) (q9 : (¬ (202 : Int32) ≤ x3) → (x3 = (0 : Int32)) → (¬ x3 = (0 : Int32)) → V G mX8_leastLength b 9 [some (.ref 42), some (.int x1), some (.int x2), some (.int (x3 + (1 : Int32)))] [] (va_up (va_up h 61 (0, .inr (202, .inl (upd mnow x3.toNatClampNeg (1 : Int32))))) 62 (0, .inr (202, .inl (upd mbefore x3.toNatClampNeg (0 : Int32))))) Q) (q10 : (¬ (202 : Int32) ≤ x3) → (x3 = (0 : Int32)) → (x3 = (0 : Int32)) → vp_in x3 202) (q11 : (¬ (202 : Int32) ≤ x3) → (x3 = (0 : Int32)) → (x3 = (0 : Int32)) → V G mX8_leastLength b 9 [some (.ref 42), some (.int x1), some (.int x2), some (.int (x3 + (1 : Int32)))] [] (va_up (va_up h 61 (0, .inr (202, .inl (upd mnow x3.toNatClampNeg (1 : Int32))))) 62 (0, .inr (202, .inl (upd mbefore x3.toNatClampNeg (1 : Int32))))) Q) : V G mX8_leastLength b 9 [some (.ref 42), some (.int x1), some (.int x2), some (.int x3)] [] h Q := by
  refine V_iload_n dX8_leastLength_9 rfl rfl ?_
  refine V_sipush dX8_leastLength_10 sp_202 ?_
  refine V_icmp_ge (t := 52) dX8_leastLength_13 (by decide) (fun z1 => ?_) (fun z1 => ?_)
  ·
    refine V_iconst dX8_leastLength_52 ic_0 ?_
    refine V_istore_n dX8_leastLength_53 rfl (Nat.le_of_ble_eq_true rfl) ?_
    refine V_iconst dX8_leastLength_54 ic_1 ?_
    refine V_istore dX8_leastLength_55 (Nat.le_of_ble_eq_true rfl) ?_
    refine V_iconst dX8_leastLength_57 ic_1 ?_
    refine V_istore dX8_leastLength_58 (Nat.le_of_ble_eq_true rfl) ?_
    refine V_iconst dX8_leastLength_60 ic_0 ?_
    refine V_istore dX8_leastLength_61 (Nat.le_of_ble_eq_true rfl) ?_
    exact V_sub (by exact (And.intro rfl (And.intro rfl (And.intro rfl (And.intro rfl (And.intro rfl (And.intro rfl (And.intro rfl True.intro)))))))) (q1 z1)
  ·
    refine V_aload_n dX8_leastLength_16 rfl rfl ?_
    refine V_get (ci := 8) (j := 29) (C0 := RX8) (T := TX8) (N := 33) dX8_leastLength_17 rfl g42 (by decide) (by decide) kf_X8_65 rfl ?_
    refine V_iload_n dX8_leastLength_20 rfl rfl ?_
    refine V_iload_n dX8_leastLength_21 rfl rfl ?_
    refine V_if_ne (t := 29) dX8_leastLength_22 (by decide) (fun z2 => ?_) (fun z2 => ?_)
    ·
      refine V_iconst dX8_leastLength_29 ic_0 ?_
      refine V_iast dX8_leastLength_30 g61 (q2 z1 z2) ?_
      refine V_aload_n dX8_leastLength_31 rfl rfl ?_
      refine V_get (ci := 8) (j := 30) (C0 := RX8) (T := TX8) (N := 33) dX8_leastLength_32 rfl g42 (by decide) (by decide) kf_X8_68 rfl ?_
      refine V_iload_n dX8_leastLength_35 rfl rfl ?_
      refine V_iload_n dX8_leastLength_36 rfl rfl ?_
      refine V_if_ne (t := 44) dX8_leastLength_37 (by decide) (fun z3 => ?_) (fun z3 => ?_)
      ·
        refine V_iconst dX8_leastLength_44 ic_0 ?_
        refine V_iast dX8_leastLength_45 g62 (q3 z1 z2 z3) ?_
        refine V_inc dX8_leastLength_46 ic_1 rfl (Nat.le_of_ble_eq_true rfl) ?_
        refine V_goto (t := 9) dX8_leastLength_49 (by decide) ?_
        exact V_sub (by exact (And.intro rfl (And.intro rfl (And.intro rfl (And.intro rfl True.intro))))) (q4 z1 z2 z3)
      ·
        refine V_iconst dX8_leastLength_40 ic_1 ?_
        refine V_goto (t := 45) dX8_leastLength_41 (by decide) ?_
        refine V_iast dX8_leastLength_45 g62 (q5 z1 z2 z3) ?_
        refine V_inc dX8_leastLength_46 ic_1 rfl (Nat.le_of_ble_eq_true rfl) ?_
        refine V_goto (t := 9) dX8_leastLength_49 (by decide) ?_
        exact V_sub (by exact (And.intro rfl (And.intro rfl (And.intro rfl (And.intro rfl True.intro))))) (q6 z1 z2 z3)
    ·
      refine V_iconst dX8_leastLength_25 ic_1 ?_
      refine V_goto (t := 30) dX8_leastLength_26 (by decide) ?_
      refine V_iast dX8_leastLength_30 g61 (q7 z1 z2) ?_
      refine V_aload_n dX8_leastLength_31 rfl rfl ?_
      refine V_get (ci := 8) (j := 30) (C0 := RX8) (T := TX8) (N := 33) dX8_leastLength_32 rfl g42 (by decide) (by decide) kf_X8_68 rfl ?_
      refine V_iload_n dX8_leastLength_35 rfl rfl ?_
      refine V_iload_n dX8_leastLength_36 rfl rfl ?_
      refine V_if_ne (t := 44) dX8_leastLength_37 (by decide) (fun z4 => ?_) (fun z4 => ?_)
      ·
        refine V_iconst dX8_leastLength_44 ic_0 ?_
        refine V_iast dX8_leastLength_45 g62 (q8 z1 z2 z4) ?_
        refine V_inc dX8_leastLength_46 ic_1 rfl (Nat.le_of_ble_eq_true rfl) ?_
        refine V_goto (t := 9) dX8_leastLength_49 (by decide) ?_
        exact V_sub (by exact (And.intro rfl (And.intro rfl (And.intro rfl (And.intro rfl True.intro))))) (q9 z1 z2 z4)
      ·
        refine V_iconst dX8_leastLength_40 ic_1 ?_
        refine V_goto (t := 45) dX8_leastLength_41 (by decide) ?_
        refine V_iast dX8_leastLength_45 g62 (q10 z1 z2 z4) ?_
        refine V_inc dX8_leastLength_46 ic_1 rfl (Nat.le_of_ble_eq_true rfl) ?_
        refine V_goto (t := 9) dX8_leastLength_49 (by decide) ?_
        exact V_sub (by exact (And.intro rfl (And.intro rfl (And.intro rfl (And.intro rfl True.intro))))) (q11 z1 z2 z4)
theorem tX8_leastLength_63 {G : gx} {b : bg} {h : ah} {Q : Option Value → ah → Prop} {x1 : Int32} {x2 : Int32} {x3 : Int32} {x4 : Int32} {x5 : Int32} {x6 : Int32} (q1 : (x2 ≤ x6) → Q (some (.int x3)) h) (q2 : (¬ x2 ≤ x6) → V G mX8_leastLength b 75 [some (.ref 42), some (.int x1), some (.int x2), some (.int x3), some (.int x4), some (.int x5), some (.int x6), some (.int (0 : Int32)), some (.int (0 : Int32))] [] h Q) : V G mX8_leastLength b 63 [some (.ref 42), some (.int x1), some (.int x2), some (.int x3), some (.int x4), some (.int x5), some (.int x6)] [] h Q := by
  refine V_iload dX8_leastLength_63 rfl ?_
  refine V_iload_n dX8_leastLength_65 rfl rfl ?_
  refine V_icmp_ge (t := 305) dX8_leastLength_66 (by decide) (fun z1 => ?_) (fun z1 => ?_)
  ·
    refine V_iload_n dX8_leastLength_305 rfl rfl ?_
    exact V_iret dX8_leastLength_306 rfl (q1 z1)
  ·
    refine V_iconst dX8_leastLength_69 ic_0 ?_
    refine V_istore dX8_leastLength_70 (Nat.le_of_ble_eq_true rfl) ?_
    refine V_iconst dX8_leastLength_72 ic_0 ?_
    refine V_istore dX8_leastLength_73 (Nat.le_of_ble_eq_true rfl) ?_
    exact V_sub (by exact (And.intro rfl (And.intro rfl (And.intro rfl (And.intro rfl (And.intro rfl (And.intro rfl (And.intro rfl (And.intro rfl (And.intro rfl True.intro)))))))))) (q2 z1)
theorem tX8_leastLength_75 {G : gx} {b : bg} {h : ah} {Q : Option Value → ah → Prop} {x1 : Int32} {x2 : Int32} {x3 : Int32} {x4 : Int32} {x5 : Int32} {x6 : Int32} {x7 : Int32} {x8 : Int32} {mk : Int32} {mn : Int32} {mall : Int32} {msum : Int32} {mexchanges : Int32} {mcycleMany : Int32} {mwhich : Int32} {mlatest : Int32} {mfirstFound : Int32} {mpartMany : Int32} {mlength : Int32} {mnow : Nat → Int32} {mitems : Nat → Int32} (g42 : h 42 = (8, .inl [.int mk, .int mn, .int mall, .ref 43, .ref 44, .ref 45, .ref 46, .int msum, .ref 47, .int mexchanges, .ref 48, .ref 49, .ref 50, .ref 51, .int mcycleMany, .ref 52, .int mwhich, .ref 53, .ref 54, .ref 55, .ref 56, .ref 57, .ref 58, .int mlatest, .int mfirstFound, .int mpartMany, .ref 59, .int mlength, .ref 60, .ref 61, .ref 62, .ref 63, .ref 64])) (g61 : h 61 = (0, .inr (202, .inl mnow))) (g57 : h 57 = (0, .inr (800, .inl mitems))) (q1 : (x3 < x8) → (¬ x7 = (0 : Int32)) → V G mX8_leastLength b 135 [some (.ref 42), some (.int x1), some (.int x2), some (.int x3), some (.int x4), some (.int x5), some (.int x6), some (.int x7), some (.int (0 : Int32))] [] h Q) (q2 : (x3 < x8) → (x7 = (0 : Int32)) → V G mX8_leastLength b 63 [some (.ref 42), some (.int x1), some (.int x2), some (.int x3), some (.int (x4 + (1 : Int32))), some (.int x5), some (.int (x6 + (1 : Int32)))] [] h Q) (q3 : (¬ x3 < x8) → vp_in x8 202) (q4 : (¬ x3 < x8) → vp_in ((((200 : Int32) * x1) + x6) - x8) 800) (q5 : (¬ x3 < x8) → ¬ mk = 0) (q6 : (¬ x3 < x8) → V G mX8_leastLength b 75 [some (.ref 42), some (.int x1), some (.int x2), some (.int x3), some (.int x4), some (.int x5), some (.int x6), some (.int ((x7 + ((mnow x8.toNatClampNeg) * (mitems ((((200 : Int32) * x1) + x6) - x8).toNatClampNeg))) - (x7 + ((mnow x8.toNatClampNeg) * (mitems ((((200 : Int32) * x1) + x6) - x8).toNatClampNeg))) / mk * mk)), some (.int (x8 + (1 : Int32)))] [] h Q) : V G mX8_leastLength b 75 [some (.ref 42), some (.int x1), some (.int x2), some (.int x3), some (.int x4), some (.int x5), some (.int x6), some (.int x7), some (.int x8)] [] h Q := by
  refine V_iload dX8_leastLength_75 rfl ?_
  refine V_iload_n dX8_leastLength_77 rfl rfl ?_
  refine V_icmp_gt (t := 121) dX8_leastLength_78 (by decide) (fun z1 => ?_) (fun z1 => ?_)
  ·
    refine V_iload dX8_leastLength_121 rfl ?_
    refine V_if_ne (t := 132) dX8_leastLength_123 (by decide) (fun z2 => ?_) (fun z2 => ?_)
    ·
      refine V_iconst dX8_leastLength_132 ic_0 ?_
      refine V_istore dX8_leastLength_133 (Nat.le_of_ble_eq_true rfl) ?_
      exact V_sub (by exact (And.intro rfl (And.intro rfl (And.intro rfl (And.intro rfl (And.intro rfl (And.intro rfl (And.intro rfl (And.intro rfl (And.intro rfl True.intro)))))))))) (q1 z1 z2)
    ·
      refine V_inc dX8_leastLength_126 ic_1 rfl (Nat.le_of_ble_eq_true rfl) ?_
      refine V_goto (t := 299) dX8_leastLength_129 (by decide) ?_
      refine V_inc dX8_leastLength_299 ic_1 rfl (Nat.le_of_ble_eq_true rfl) ?_
      refine V_goto (t := 63) dX8_leastLength_302 (by decide) ?_
      exact V_sub (by exact (And.intro rfl (And.intro rfl (And.intro rfl (And.intro rfl (And.intro rfl (And.intro rfl (And.intro rfl True.intro)))))))) (q2 z1 z2)
  ·
    refine V_iload dX8_leastLength_81 rfl ?_
    refine V_aload_n dX8_leastLength_83 rfl rfl ?_
    refine V_get (ci := 8) (j := 29) (C0 := RX8) (T := TX8) (N := 33) dX8_leastLength_84 rfl g42 (by decide) (by decide) kf_X8_65 rfl ?_
    refine V_iload dX8_leastLength_87 rfl ?_
    refine V_iald dX8_leastLength_89 g61 (q3 z1) ?_
    refine V_aload_n dX8_leastLength_90 rfl rfl ?_
    refine V_get (ci := 8) (j := 21) (C0 := RX8) (T := TX8) (N := 33) dX8_leastLength_91 rfl g42 (by decide) (by decide) kf_X8_53 rfl ?_
    refine V_sipush dX8_leastLength_94 sp_200 ?_
    refine V_iload_n dX8_leastLength_97 rfl rfl ?_
    refine V_imul dX8_leastLength_98 ?_
    refine V_iload dX8_leastLength_99 rfl ?_
    refine V_iadd dX8_leastLength_101 ?_
    refine V_iload dX8_leastLength_102 rfl ?_
    refine V_isub dX8_leastLength_104 ?_
    refine V_iald dX8_leastLength_105 g57 (q4 z1) ?_
    refine V_imul dX8_leastLength_106 ?_
    refine V_iadd dX8_leastLength_107 ?_
    refine V_aload_n dX8_leastLength_108 rfl rfl ?_
    refine V_get (ci := 8) (j := 0) (C0 := RX8) (T := TX8) (N := 33) dX8_leastLength_109 rfl g42 (by decide) (by decide) kf_X8_92 rfl ?_
    refine V_irem dX8_leastLength_112 (q5 z1) ?_
    refine V_istore dX8_leastLength_113 (Nat.le_of_ble_eq_true rfl) ?_
    refine V_inc dX8_leastLength_115 ic_1 rfl (Nat.le_of_ble_eq_true rfl) ?_
    refine V_goto (t := 75) dX8_leastLength_118 (by decide) ?_
    exact V_sub (by exact (And.intro rfl (And.intro rfl (And.intro rfl (And.intro rfl (And.intro rfl (And.intro rfl (And.intro rfl (And.intro rfl (And.intro rfl True.intro)))))))))) (q6 z1)
theorem tX8_leastLength_135 {G : gx} {b : bg} {h : ah} {Q : Option Value → ah → Prop} {x1 : Int32} {x2 : Int32} {x3 : Int32} {x4 : Int32} {x5 : Int32} {x6 : Int32} {x7 : Int32} {x8 : Int32} {mk : Int32} {mn : Int32} {mall : Int32} {msum : Int32} {mexchanges : Int32} {mcycleMany : Int32} {mwhich : Int32} {mlatest : Int32} {mfirstFound : Int32} {mpartMany : Int32} {mlength : Int32} {mnow : Nat → Int32} {mkept : Nat → Int32} (g42 : h 42 = (8, .inl [.int mk, .int mn, .int mall, .ref 43, .ref 44, .ref 45, .ref 46, .int msum, .ref 47, .int mexchanges, .ref 48, .ref 49, .ref 50, .ref 51, .int mcycleMany, .ref 52, .int mwhich, .ref 53, .ref 54, .ref 55, .ref 56, .ref 57, .ref 58, .int mlatest, .int mfirstFound, .int mpartMany, .ref 59, .int mlength, .ref 60, .ref 61, .ref 62, .ref 63, .ref 64])) (g61 : h 61 = (0, .inr (202, .inl mnow))) (g63 : h 63 = (0, .inr (202, .inl mkept))) (q1 : ((202 : Int32) ≤ x8) → V G mX8_leastLength b 168 [some (.ref 42), some (.int x1), some (.int x2), some (.int x3), some (.int x4), some (.int x5), some (.int x6), some (.int x7), some (.int x8)] [.int x5, .ref 42, .int x7] h Q) (q2 : (¬ (202 : Int32) ≤ x8) → vp_in x8 202) (q3 : (¬ (202 : Int32) ≤ x8) → vp_in x8 202) (q4 : (¬ (202 : Int32) ≤ x8) → V G mX8_leastLength b 135 [some (.ref 42), some (.int x1), some (.int x2), some (.int x3), some (.int x4), some (.int x5), some (.int x6), some (.int x7), some (.int (x8 + (1 : Int32)))] [] (va_up h 63 (0, .inr (202, .inl (upd mkept x8.toNatClampNeg (mnow x8.toNatClampNeg))))) Q) : V G mX8_leastLength b 135 [some (.ref 42), some (.int x1), some (.int x2), some (.int x3), some (.int x4), some (.int x5), some (.int x6), some (.int x7), some (.int x8)] [] h Q := by
  refine V_iload dX8_leastLength_135 rfl ?_
  refine V_sipush dX8_leastLength_137 sp_202 ?_
  refine V_icmp_ge (t := 163) dX8_leastLength_140 (by decide) (fun z1 => ?_) (fun z1 => ?_)
  ·
    refine V_iload dX8_leastLength_163 rfl ?_
    refine V_aload_n dX8_leastLength_165 rfl rfl ?_
    refine V_iload dX8_leastLength_166 rfl ?_
    exact V_sub (by exact (And.intro rfl (And.intro rfl (And.intro rfl (And.intro rfl (And.intro rfl (And.intro rfl (And.intro rfl (And.intro rfl (And.intro rfl True.intro)))))))))) (q1 z1)
  ·
    refine V_aload_n dX8_leastLength_143 rfl rfl ?_
    refine V_get (ci := 8) (j := 31) (C0 := RX8) (T := TX8) (N := 33) dX8_leastLength_144 rfl g42 (by decide) (by decide) kf_X8_71 rfl ?_
    refine V_iload dX8_leastLength_147 rfl ?_
    refine V_aload_n dX8_leastLength_149 rfl rfl ?_
    refine V_get (ci := 8) (j := 29) (C0 := RX8) (T := TX8) (N := 33) dX8_leastLength_150 rfl g42 (by decide) (by decide) kf_X8_65 rfl ?_
    refine V_iload dX8_leastLength_153 rfl ?_
    refine V_iald dX8_leastLength_155 g61 (q2 z1) ?_
    refine V_iast dX8_leastLength_156 g63 (q3 z1) ?_
    refine V_inc dX8_leastLength_157 ic_1 rfl (Nat.le_of_ble_eq_true rfl) ?_
    refine V_goto (t := 135) dX8_leastLength_160 (by decide) ?_
    exact V_sub (by exact (And.intro rfl (And.intro rfl (And.intro rfl (And.intro rfl (And.intro rfl (And.intro rfl (And.intro rfl (And.intro rfl (And.intro rfl True.intro)))))))))) (q4 z1)
theorem tX8_leastLength_182 {G : gx} {b : bg} {h : ah} {Q : Option Value → ah → Prop} {x1 : Int32} {x2 : Int32} {x3 : Int32} {x4 : Int32} {x5 : Int32} {x6 : Int32} {x7 : Int32} {x8 : Int32} {x9 : Int32} {mk : Int32} {mn : Int32} {mall : Int32} {msum : Int32} {mexchanges : Int32} {mcycleMany : Int32} {mwhich : Int32} {mlatest : Int32} {mfirstFound : Int32} {mpartMany : Int32} {mlength : Int32} {mnow : Nat → Int32} {mbefore : Nat → Int32} (g42 : h 42 = (8, .inl [.int mk, .int mn, .int mall, .ref 43, .ref 44, .ref 45, .ref 46, .int msum, .ref 47, .int mexchanges, .ref 48, .ref 49, .ref 50, .ref 51, .int mcycleMany, .ref 52, .int mwhich, .ref 53, .ref 54, .ref 55, .ref 56, .ref 57, .ref 58, .int mlatest, .int mfirstFound, .int mpartMany, .ref 59, .int mlength, .ref 60, .ref 61, .ref 62, .ref 63, .ref 64])) (g61 : h 61 = (0, .inr (202, .inl mnow))) (g62 : h 62 = (0, .inr (202, .inl mbefore))) (q1 : ((202 : Int32) ≤ (x9 + x4)) → (x6 < ((2 : Int32) * x3)) → V G mX8_leastLength b 63 [some (.ref 42), some (.int x1), some (.int x2), some (.int x3), some (.int (x4 + (1 : Int32))), some (.int x5), some (.int (x6 + (1 : Int32)))] [] h Q) (q2 : ((202 : Int32) ≤ (x9 + x4)) → (¬ x6 < ((2 : Int32) * x3)) → V G mX8_leastLength b 258 [some (.ref 42), some (.int x1), some (.int x2), some (.int ((x6 + (1 : Int32)) - x3)), some (.int x4), some (.int x5), some (.int x6), some (.int x7), some (.int x8), some (.int (0 : Int32))] [] h Q) (q3 : (¬ (202 : Int32) ≤ (x9 + x4)) → vp_in (x9 + x4) 202) (q4 : (¬ (202 : Int32) ≤ (x9 + x4)) → vp_in x9 202) (q5 : (¬ (202 : Int32) ≤ (x9 + x4)) → ¬ mk = 0) (q6 : (¬ (202 : Int32) ≤ (x9 + x4)) → vp_in (x9 + x4) 202) (q7 : (¬ (202 : Int32) ≤ (x9 + x4)) → V G mX8_leastLength b 182 [some (.ref 42), some (.int x1), some (.int x2), some (.int x3), some (.int x4), some (.int x5), some (.int x6), some (.int x7), some (.int x8), some (.int (x9 + (1 : Int32)))] [] (va_up h 61 (0, .inr (202, .inl (upd mnow (x9 + x4).toNatClampNeg (((mnow (x9 + x4).toNatClampNeg) + ((mk - x8) * (mbefore x9.toNatClampNeg))) - ((mnow (x9 + x4).toNatClampNeg) + ((mk - x8) * (mbefore x9.toNatClampNeg))) / mk * mk))))) Q) : V G mX8_leastLength b 182 [some (.ref 42), some (.int x1), some (.int x2), some (.int x3), some (.int x4), some (.int x5), some (.int x6), some (.int x7), some (.int x8), some (.int x9)] [] h Q := by
  refine V_iload dX8_leastLength_182 rfl ?_
  refine V_iload dX8_leastLength_184 rfl ?_
  refine V_iadd dX8_leastLength_186 ?_
  refine V_sipush dX8_leastLength_187 sp_202 ?_
  refine V_icmp_ge (t := 240) dX8_leastLength_190 (by decide) (fun z1 => ?_) (fun z1 => ?_)
  ·
    refine V_iconst dX8_leastLength_240 ic_2 ?_
    refine V_iload_n dX8_leastLength_241 rfl rfl ?_
    refine V_imul dX8_leastLength_242 ?_
    refine V_iload dX8_leastLength_243 rfl ?_
    refine V_icmp_gt (t := 296) dX8_leastLength_245 (by decide) (fun z2 => ?_) (fun z2 => ?_)
    ·
      refine V_inc dX8_leastLength_296 ic_1 rfl (Nat.le_of_ble_eq_true rfl) ?_
      refine V_inc dX8_leastLength_299 ic_1 rfl (Nat.le_of_ble_eq_true rfl) ?_
      refine V_goto (t := 63) dX8_leastLength_302 (by decide) ?_
      exact V_sub (by exact (And.intro rfl (And.intro rfl (And.intro rfl (And.intro rfl (And.intro rfl (And.intro rfl (And.intro rfl True.intro)))))))) (q1 z1 z2)
    ·
      refine V_iload dX8_leastLength_248 rfl ?_
      refine V_iconst dX8_leastLength_250 ic_1 ?_
      refine V_iadd dX8_leastLength_251 ?_
      refine V_iload_n dX8_leastLength_252 rfl rfl ?_
      refine V_isub dX8_leastLength_253 ?_
      refine V_istore_n dX8_leastLength_254 rfl (Nat.le_of_ble_eq_true rfl) ?_
      refine V_iconst dX8_leastLength_255 ic_0 ?_
      refine V_istore dX8_leastLength_256 (Nat.le_of_ble_eq_true rfl) ?_
      exact V_sub (by exact (And.intro rfl (And.intro rfl (And.intro rfl (And.intro rfl (And.intro rfl (And.intro rfl (And.intro rfl (And.intro rfl (And.intro rfl (And.intro rfl True.intro))))))))))) (q2 z1 z2)
  ·
    refine V_aload_n dX8_leastLength_193 rfl rfl ?_
    refine V_get (ci := 8) (j := 29) (C0 := RX8) (T := TX8) (N := 33) dX8_leastLength_194 rfl g42 (by decide) (by decide) kf_X8_65 rfl ?_
    refine V_iload dX8_leastLength_197 rfl ?_
    refine V_iload dX8_leastLength_199 rfl ?_
    refine V_iadd dX8_leastLength_201 ?_
    refine V_aload_n dX8_leastLength_202 rfl rfl ?_
    refine V_get (ci := 8) (j := 29) (C0 := RX8) (T := TX8) (N := 33) dX8_leastLength_203 rfl g42 (by decide) (by decide) kf_X8_65 rfl ?_
    refine V_iload dX8_leastLength_206 rfl ?_
    refine V_iload dX8_leastLength_208 rfl ?_
    refine V_iadd dX8_leastLength_210 ?_
    refine V_iald dX8_leastLength_211 g61 (q3 z1) ?_
    refine V_aload_n dX8_leastLength_212 rfl rfl ?_
    refine V_get (ci := 8) (j := 0) (C0 := RX8) (T := TX8) (N := 33) dX8_leastLength_213 rfl g42 (by decide) (by decide) kf_X8_92 rfl ?_
    refine V_iload dX8_leastLength_216 rfl ?_
    refine V_isub dX8_leastLength_218 ?_
    refine V_aload_n dX8_leastLength_219 rfl rfl ?_
    refine V_get (ci := 8) (j := 30) (C0 := RX8) (T := TX8) (N := 33) dX8_leastLength_220 rfl g42 (by decide) (by decide) kf_X8_68 rfl ?_
    refine V_iload dX8_leastLength_223 rfl ?_
    refine V_iald dX8_leastLength_225 g62 (q4 z1) ?_
    refine V_imul dX8_leastLength_226 ?_
    refine V_iadd dX8_leastLength_227 ?_
    refine V_aload_n dX8_leastLength_228 rfl rfl ?_
    refine V_get (ci := 8) (j := 0) (C0 := RX8) (T := TX8) (N := 33) dX8_leastLength_229 rfl g42 (by decide) (by decide) kf_X8_92 rfl ?_
    refine V_irem dX8_leastLength_232 (q5 z1) ?_
    refine V_iast dX8_leastLength_233 g61 (q6 z1) ?_
    refine V_inc dX8_leastLength_234 ic_1 rfl (Nat.le_of_ble_eq_true rfl) ?_
    refine V_goto (t := 182) dX8_leastLength_237 (by decide) ?_
    exact V_sub (by exact (And.intro rfl (And.intro rfl (And.intro rfl (And.intro rfl (And.intro rfl (And.intro rfl (And.intro rfl (And.intro rfl (And.intro rfl (And.intro rfl True.intro))))))))))) (q7 z1)
theorem tX8_leastLength_258 {G : gx} {b : bg} {h : ah} {Q : Option Value → ah → Prop} {x1 : Int32} {x2 : Int32} {x3 : Int32} {x4 : Int32} {x5 : Int32} {x6 : Int32} {x7 : Int32} {x8 : Int32} {x9 : Int32} {mk : Int32} {mn : Int32} {mall : Int32} {msum : Int32} {mexchanges : Int32} {mcycleMany : Int32} {mwhich : Int32} {mlatest : Int32} {mfirstFound : Int32} {mpartMany : Int32} {mlength : Int32} {mkept : Nat → Int32} {mbefore : Nat → Int32} (g42 : h 42 = (8, .inl [.int mk, .int mn, .int mall, .ref 43, .ref 44, .ref 45, .ref 46, .int msum, .ref 47, .int mexchanges, .ref 48, .ref 49, .ref 50, .ref 51, .int mcycleMany, .ref 52, .int mwhich, .ref 53, .ref 54, .ref 55, .ref 56, .ref 57, .ref 58, .int mlatest, .int mfirstFound, .int mpartMany, .ref 59, .int mlength, .ref 60, .ref 61, .ref 62, .ref 63, .ref 64])) (g63 : h 63 = (0, .inr (202, .inl mkept))) (g62 : h 62 = (0, .inr (202, .inl mbefore))) (q1 : ((202 : Int32) ≤ x9) → V G mX8_leastLength b 63 [some (.ref 42), some (.int x1), some (.int x2), some (.int x3), some (.int (1 : Int32)), some (.int x7), some (.int (x6 + (1 : Int32)))] [] h Q) (q2 : (¬ (202 : Int32) ≤ x9) → vp_in x9 202) (q3 : (¬ (202 : Int32) ≤ x9) → vp_in x9 202) (q4 : (¬ (202 : Int32) ≤ x9) → V G mX8_leastLength b 258 [some (.ref 42), some (.int x1), some (.int x2), some (.int x3), some (.int x4), some (.int x5), some (.int x6), some (.int x7), some (.int x8), some (.int (x9 + (1 : Int32)))] [] (va_up h 62 (0, .inr (202, .inl (upd mbefore x9.toNatClampNeg (mkept x9.toNatClampNeg))))) Q) : V G mX8_leastLength b 258 [some (.ref 42), some (.int x1), some (.int x2), some (.int x3), some (.int x4), some (.int x5), some (.int x6), some (.int x7), some (.int x8), some (.int x9)] [] h Q := by
  refine V_iload dX8_leastLength_258 rfl ?_
  refine V_sipush dX8_leastLength_260 sp_202 ?_
  refine V_icmp_ge (t := 286) dX8_leastLength_263 (by decide) (fun z1 => ?_) (fun z1 => ?_)
  ·
    refine V_iload dX8_leastLength_286 rfl ?_
    refine V_istore dX8_leastLength_288 (Nat.le_of_ble_eq_true rfl) ?_
    refine V_iconst dX8_leastLength_290 ic_1 ?_
    refine V_istore dX8_leastLength_291 (Nat.le_of_ble_eq_true rfl) ?_
    refine V_goto (t := 299) dX8_leastLength_293 (by decide) ?_
    refine V_inc dX8_leastLength_299 ic_1 rfl (Nat.le_of_ble_eq_true rfl) ?_
    refine V_goto (t := 63) dX8_leastLength_302 (by decide) ?_
    exact V_sub (by exact (And.intro rfl (And.intro rfl (And.intro rfl (And.intro rfl (And.intro rfl (And.intro rfl (And.intro rfl True.intro)))))))) (q1 z1)
  ·
    refine V_aload_n dX8_leastLength_266 rfl rfl ?_
    refine V_get (ci := 8) (j := 30) (C0 := RX8) (T := TX8) (N := 33) dX8_leastLength_267 rfl g42 (by decide) (by decide) kf_X8_68 rfl ?_
    refine V_iload dX8_leastLength_270 rfl ?_
    refine V_aload_n dX8_leastLength_272 rfl rfl ?_
    refine V_get (ci := 8) (j := 31) (C0 := RX8) (T := TX8) (N := 33) dX8_leastLength_273 rfl g42 (by decide) (by decide) kf_X8_71 rfl ?_
    refine V_iload dX8_leastLength_276 rfl ?_
    refine V_iald dX8_leastLength_278 g63 (q2 z1) ?_
    refine V_iast dX8_leastLength_279 g62 (q3 z1) ?_
    refine V_inc dX8_leastLength_280 ic_1 rfl (Nat.le_of_ble_eq_true rfl) ?_
    refine V_goto (t := 258) dX8_leastLength_283 (by decide) ?_
    exact V_sub (by exact (And.intro rfl (And.intro rfl (And.intro rfl (And.intro rfl (And.intro rfl (And.intro rfl (And.intro rfl (And.intro rfl (And.intro rfl (And.intro rfl True.intro))))))))))) (q4 z1)
theorem tX8_leastLength_171 {G : gx} {b : bg} {h : ah} {Q : Option Value → ah → Prop} {x1 : Int32} {x2 : Int32} {x3 : Int32} {x4 : Int32} {x5 : Int32} {x6 : Int32} {x7 : Int32} {x8 : Int32} {s0 : Int32} {s1 : Int32} {mk : Int32} {mn : Int32} {mall : Int32} {msum : Int32} {mexchanges : Int32} {mcycleMany : Int32} {mwhich : Int32} {mlatest : Int32} {mfirstFound : Int32} {mpartMany : Int32} {mlength : Int32} (g42 : h 42 = (8, .inl [.int mk, .int mn, .int mall, .ref 43, .ref 44, .ref 45, .ref 46, .int msum, .ref 47, .int mexchanges, .ref 48, .ref 49, .ref 50, .ref 51, .int mcycleMany, .ref 52, .int mwhich, .ref 53, .ref 54, .ref 55, .ref 56, .ref 57, .ref 58, .int mlatest, .int mfirstFound, .int mpartMany, .ref 59, .int mlength, .ref 60, .ref 61, .ref 62, .ref 63, .ref 64])) (q1 : ¬ mk = 0) (q2 : V G mX8_leastLength b 182 [some (.ref 42), some (.int x1), some (.int x2), some (.int x3), some (.int x4), some (.int x5), some (.int x6), some (.int x7), some (.int ((s1 * s0) - (s1 * s0) / mk * mk)), some (.int (0 : Int32))] [] h Q) : V G mX8_leastLength b 171 [some (.ref 42), some (.int x1), some (.int x2), some (.int x3), some (.int x4), some (.int x5), some (.int x6), some (.int x7), some (.int x8)] [.int s0, .int s1] h Q := by
  refine V_imul dX8_leastLength_171 ?_
  refine V_aload_n dX8_leastLength_172 rfl rfl ?_
  refine V_get (ci := 8) (j := 0) (C0 := RX8) (T := TX8) (N := 33) dX8_leastLength_173 rfl g42 (by decide) (by decide) kf_X8_92 rfl ?_
  refine V_irem dX8_leastLength_176 (q1) ?_
  refine V_istore dX8_leastLength_177 (Nat.le_of_ble_eq_true rfl) ?_
  refine V_iconst dX8_leastLength_179 ic_0 ?_
  refine V_istore dX8_leastLength_180 (Nat.le_of_ble_eq_true rfl) ?_
  exact V_sub (by exact (And.intro rfl (And.intro rfl (And.intro rfl (And.intro rfl (And.intro rfl (And.intro rfl (And.intro rfl (And.intro rfl (And.intro rfl (And.intro rfl True.intro))))))))))) (q2)
theorem cX8_leastLength_168 {G : gx} {d mc ms cc zz d2 mc2 ms2 : Nat} {L : List (Option Value)} {S : List Value} {h : ah} {Q Q2 : Option Value → ah → Prop} {k : Nat} {fs : List Value} {a0 : Value} (hM : Ct G mX8_inverse d2 mc2 ms2 (.ref (k + 2) :: [a0]) h Q2) (hc : h (k + 2) = (8, .inl fs)) (hdd : d2 < d ∧ d ≤ 9) (hrm : (S.map fun v => v.category).sum ≤ 8) (hf : cc + mc2 ≤ mc ∧ zz + ms2 ≤ ms) (kk : ∀ r h2, Q2 r h2 → V G mX8_leastLength (d, mc, ms, cc + mc2, zz + ms2) 171 L (r.toList ++ S) h2 Q) : V G mX8_leastLength (d, mc, ms, cc, zz) 168 L (a0 :: .ref (k + 2) :: S) h Q := V_callV (ci := 8) (T := TX8) (N := 33) hM dX8_leastLength_168 ⟨km_X8_192, ki_X8_inverse, ks_X8_inverse⟩ cw_X8_inverse rfl hc (by decide) hdd rfl rfl hrm hf kk
theorem tX8_solve_0 {G : gx} {b : bg} {h : ah} {Q : Option Value → ah → Prop} {x1 : Int32} {x2 : Int32} {mk : Int32} {mn : Int32} {mall : Int32} {msum : Int32} {mexchanges : Int32} {mcycleMany : Int32} {mwhich : Int32} {mlatest : Int32} {mfirstFound : Int32} {mpartMany : Int32} {mlength : Int32} {msizes : Nat → Int32} (g42 : h 42 = (8, .inl [.int mk, .int mn, .int mall, .ref 43, .ref 44, .ref 45, .ref 46, .int msum, .ref 47, .int mexchanges, .ref 48, .ref 49, .ref 50, .ref 51, .int mcycleMany, .ref 52, .int mwhich, .ref 53, .ref 54, .ref 55, .ref 56, .ref 57, .ref 58, .int mlatest, .int mfirstFound, .int mpartMany, .ref 59, .int mlength, .ref 60, .ref 61, .ref 62, .ref 63, .ref 64])) (g56 : h 56 = (0, .inr (4, .inl msizes))) (q1 : vp_in x1 4) (q2 : V G mX8_solve b 20 [some (.ref 42), some (.int x1), some (.int x2), some (.int (msizes x1.toNatClampNeg)), some (.int ((msizes x1.toNatClampNeg) - x2)), some (.int (x2 + (1 : Int32))), some (.int (0 : Int32))] [] h Q) : V G mX8_solve b 0 [some (.ref 42), some (.int x1), some (.int x2)] [] h Q := by
  refine V_aload_n dX8_solve_0 rfl rfl ?_
  refine V_get (ci := 8) (j := 20) (C0 := RX8) (T := TX8) (N := 33) dX8_solve_1 rfl g42 (by decide) (by decide) kf_X8_50 rfl ?_
  refine V_iload_n dX8_solve_4 rfl rfl ?_
  refine V_iald dX8_solve_5 g56 (q1) ?_
  refine V_istore_n dX8_solve_6 rfl (Nat.le_of_ble_eq_true rfl) ?_
  refine V_iload_n dX8_solve_7 rfl rfl ?_
  refine V_iload_n dX8_solve_8 rfl rfl ?_
  refine V_isub dX8_solve_9 ?_
  refine V_istore dX8_solve_10 (Nat.le_of_ble_eq_true rfl) ?_
  refine V_iload_n dX8_solve_12 rfl rfl ?_
  refine V_iconst dX8_solve_13 ic_1 ?_
  refine V_iadd dX8_solve_14 ?_
  refine V_istore dX8_solve_15 (Nat.le_of_ble_eq_true rfl) ?_
  refine V_iconst dX8_solve_17 ic_0 ?_
  refine V_istore dX8_solve_18 (Nat.le_of_ble_eq_true rfl) ?_
  exact V_sub (by exact (And.intro rfl (And.intro rfl (And.intro rfl (And.intro rfl (And.intro rfl (And.intro rfl (And.intro rfl True.intro)))))))) (q2)
theorem tX8_solve_20 {G : gx} {b : bg} {h : ah} {Q : Option Value → ah → Prop} {x1 : Int32} {x2 : Int32} {x3 : Int32} {x4 : Int32} {x5 : Int32} {x6 : Int32} (q1 : (x4 ≤ x6) → V G mX8_solve b 111 [some (.ref 42), some (.int x1), some (.int x2), some (.int x3), some (.int x4), some (.int x5), some (.int (0 : Int32))] [] h Q) (q2 : (¬ x4 ≤ x6) → V G mX8_solve b 30 [some (.ref 42), some (.int x1), some (.int x2), some (.int x3), some (.int x4), some (.int x5), some (.int x6), some (.int (1 : Int32))] [] h Q) : V G mX8_solve b 20 [some (.ref 42), some (.int x1), some (.int x2), some (.int x3), some (.int x4), some (.int x5), some (.int x6)] [] h Q := by
  refine V_iload dX8_solve_20 rfl ?_
  refine V_iload dX8_solve_22 rfl ?_
  refine V_icmp_ge (t := 108) dX8_solve_24 (by decide) (fun z1 => ?_) (fun z1 => ?_)
  ·
    refine V_iconst dX8_solve_108 ic_0 ?_
    refine V_istore dX8_solve_109 (Nat.le_of_ble_eq_true rfl) ?_
    exact V_sub (by exact (And.intro rfl (And.intro rfl (And.intro rfl (And.intro rfl (And.intro rfl (And.intro rfl (And.intro rfl True.intro)))))))) (q1 z1)
  ·
    refine V_iconst dX8_solve_27 ic_1 ?_
    refine V_istore dX8_solve_28 (Nat.le_of_ble_eq_true rfl) ?_
    exact V_sub (by exact (And.intro rfl (And.intro rfl (And.intro rfl (And.intro rfl (And.intro rfl (And.intro rfl (And.intro rfl (And.intro rfl True.intro))))))))) (q2 z1)
theorem tX8_solve_30 {G : gx} {b : bg} {h : ah} {Q : Option Value → ah → Prop} {x1 : Int32} {x2 : Int32} {x3 : Int32} {x4 : Int32} {x5 : Int32} {x6 : Int32} {x7 : Int32} {mk : Int32} {mn : Int32} {mall : Int32} {msum : Int32} {mexchanges : Int32} {mcycleMany : Int32} {mwhich : Int32} {mlatest : Int32} {mfirstFound : Int32} {mpartMany : Int32} {mlength : Int32} {mitems : Nat → Int32} {mmatrix : Nat → Int32} (g42 : h 42 = (8, .inl [.int mk, .int mn, .int mall, .ref 43, .ref 44, .ref 45, .ref 46, .int msum, .ref 47, .int mexchanges, .ref 48, .ref 49, .ref 50, .ref 51, .int mcycleMany, .ref 52, .int mwhich, .ref 53, .ref 54, .ref 55, .ref 56, .ref 57, .ref 58, .int mlatest, .int mfirstFound, .int mpartMany, .ref 59, .int mlength, .ref 60, .ref 61, .ref 62, .ref 63, .ref 64])) (g57 : h 57 = (0, .inr (800, .inl mitems))) (g64 : h 64 = (0, .inr (40602, .inl mmatrix))) (q1 : (x2 < x7) → vp_in ((((200 : Int32) * x1) + x2) + x6) 800) (q2 : (x2 < x7) → vp_in ((x6 * x5) + x2) 40602) (q3 : (x2 < x7) → V G mX8_solve b 20 [some (.ref 42), some (.int x1), some (.int x2), some (.int x3), some (.int x4), some (.int x5), some (.int (x6 + (1 : Int32)))] [] (va_up h 64 (0, .inr (40602, .inl (upd mmatrix ((x6 * x5) + x2).toNatClampNeg (mitems ((((200 : Int32) * x1) + x2) + x6).toNatClampNeg))))) Q) (q4 : (¬ x2 < x7) → vp_in (((((200 : Int32) * x1) + x2) + x6) - x7) 800) (q5 : (¬ x2 < x7) → vp_in (((x6 * x5) + x7) - (1 : Int32)) 40602) (q6 : (¬ x2 < x7) → V G mX8_solve b 30 [some (.ref 42), some (.int x1), some (.int x2), some (.int x3), some (.int x4), some (.int x5), some (.int x6), some (.int (x7 + (1 : Int32)))] [] (va_up h 64 (0, .inr (40602, .inl (upd mmatrix (((x6 * x5) + x7) - (1 : Int32)).toNatClampNeg (mitems (((((200 : Int32) * x1) + x2) + x6) - x7).toNatClampNeg))))) Q) : V G mX8_solve b 30 [some (.ref 42), some (.int x1), some (.int x2), some (.int x3), some (.int x4), some (.int x5), some (.int x6), some (.int x7)] [] h Q := by
  refine V_iload dX8_solve_30 rfl ?_
  refine V_iload_n dX8_solve_32 rfl rfl ?_
  refine V_icmp_gt (t := 75) dX8_solve_33 (by decide) (fun z1 => ?_) (fun z1 => ?_)
  ·
    refine V_aload_n dX8_solve_75 rfl rfl ?_
    refine V_get (ci := 8) (j := 32) (C0 := RX8) (T := TX8) (N := 33) dX8_solve_76 rfl g42 (by decide) (by decide) kf_X8_75 rfl ?_
    refine V_iload dX8_solve_79 rfl ?_
    refine V_iload dX8_solve_81 rfl ?_
    refine V_imul dX8_solve_83 ?_
    refine V_iload_n dX8_solve_84 rfl rfl ?_
    refine V_iadd dX8_solve_85 ?_
    refine V_aload_n dX8_solve_86 rfl rfl ?_
    refine V_get (ci := 8) (j := 21) (C0 := RX8) (T := TX8) (N := 33) dX8_solve_87 rfl g42 (by decide) (by decide) kf_X8_53 rfl ?_
    refine V_sipush dX8_solve_90 sp_200 ?_
    refine V_iload_n dX8_solve_93 rfl rfl ?_
    refine V_imul dX8_solve_94 ?_
    refine V_iload_n dX8_solve_95 rfl rfl ?_
    refine V_iadd dX8_solve_96 ?_
    refine V_iload dX8_solve_97 rfl ?_
    refine V_iadd dX8_solve_99 ?_
    refine V_iald dX8_solve_100 g57 (q1 z1) ?_
    refine V_iast dX8_solve_101 g64 (q2 z1) ?_
    refine V_inc dX8_solve_102 ic_1 rfl (Nat.le_of_ble_eq_true rfl) ?_
    refine V_goto (t := 20) dX8_solve_105 (by decide) ?_
    exact V_sub (by exact (And.intro rfl (And.intro rfl (And.intro rfl (And.intro rfl (And.intro rfl (And.intro rfl (And.intro rfl True.intro)))))))) (q3 z1)
  ·
    refine V_aload_n dX8_solve_36 rfl rfl ?_
    refine V_get (ci := 8) (j := 32) (C0 := RX8) (T := TX8) (N := 33) dX8_solve_37 rfl g42 (by decide) (by decide) kf_X8_75 rfl ?_
    refine V_iload dX8_solve_40 rfl ?_
    refine V_iload dX8_solve_42 rfl ?_
    refine V_imul dX8_solve_44 ?_
    refine V_iload dX8_solve_45 rfl ?_
    refine V_iadd dX8_solve_47 ?_
    refine V_iconst dX8_solve_48 ic_1 ?_
    refine V_isub dX8_solve_49 ?_
    refine V_aload_n dX8_solve_50 rfl rfl ?_
    refine V_get (ci := 8) (j := 21) (C0 := RX8) (T := TX8) (N := 33) dX8_solve_51 rfl g42 (by decide) (by decide) kf_X8_53 rfl ?_
    refine V_sipush dX8_solve_54 sp_200 ?_
    refine V_iload_n dX8_solve_57 rfl rfl ?_
    refine V_imul dX8_solve_58 ?_
    refine V_iload_n dX8_solve_59 rfl rfl ?_
    refine V_iadd dX8_solve_60 ?_
    refine V_iload dX8_solve_61 rfl ?_
    refine V_iadd dX8_solve_63 ?_
    refine V_iload dX8_solve_64 rfl ?_
    refine V_isub dX8_solve_66 ?_
    refine V_iald dX8_solve_67 g57 (q4 z1) ?_
    refine V_iast dX8_solve_68 g64 (q5 z1) ?_
    refine V_inc dX8_solve_69 ic_1 rfl (Nat.le_of_ble_eq_true rfl) ?_
    refine V_goto (t := 30) dX8_solve_72 (by decide) ?_
    exact V_sub (by exact (And.intro rfl (And.intro rfl (And.intro rfl (And.intro rfl (And.intro rfl (And.intro rfl (And.intro rfl (And.intro rfl True.intro))))))))) (q6 z1)
theorem tX8_solve_111 {G : gx} {b : bg} {h : ah} {Q : Option Value → ah → Prop} {x1 : Int32} {x2 : Int32} {x3 : Int32} {x4 : Int32} {x5 : Int32} {x6 : Int32} {mk : Int32} {mn : Int32} {mall : Int32} {msum : Int32} {mexchanges : Int32} {mcycleMany : Int32} {mwhich : Int32} {mlatest : Int32} {mfirstFound : Int32} {mpartMany : Int32} {mlength : Int32} {mtold : Nat → Int32} {mkept : Nat → Int32} (g42 : h 42 = (8, .inl [.int mk, .int mn, .int mall, .ref 43, .ref 44, .ref 45, .ref 46, .int msum, .ref 47, .int mexchanges, .ref 48, .ref 49, .ref 50, .ref 51, .int mcycleMany, .ref 52, .int mwhich, .ref 53, .ref 54, .ref 55, .ref 56, .ref 57, .ref 58, .int mlatest, .int mfirstFound, .int mpartMany, .ref 59, .int mlength, .ref 60, .ref 61, .ref 62, .ref 63, .ref 64])) (g60 : h 60 = (0, .inr (201, .inl mtold))) (g63 : h 63 = (0, .inr (202, .inl mkept))) (q1 : (x2 < x6) → V G mX8_solve b 147 [some (.ref 42), some (.int x1), some (.int x2), some (.int x3), some (.int x4), some (.int x5), some (.int (0 : Int32)), some (.int (x2 - (1 : Int32)))] [] h Q) (q2 : (¬ x2 < x6) → vp_in x6 201) (q3 : (¬ x2 < x6) → vp_in x6 202) (q4 : (¬ x2 < x6) → V G mX8_solve b 111 [some (.ref 42), some (.int x1), some (.int x2), some (.int x3), some (.int x4), some (.int x5), some (.int (x6 + (1 : Int32)))] [] (va_up (va_up h 60 (0, .inr (201, .inl (upd mtold x6.toNatClampNeg (0 : Int32))))) 63 (0, .inr (202, .inl (upd mkept x6.toNatClampNeg (-1 : Int32))))) Q) : V G mX8_solve b 111 [some (.ref 42), some (.int x1), some (.int x2), some (.int x3), some (.int x4), some (.int x5), some (.int x6)] [] h Q := by
  refine V_iload dX8_solve_111 rfl ?_
  refine V_iload_n dX8_solve_113 rfl rfl ?_
  refine V_icmp_gt (t := 139) dX8_solve_114 (by decide) (fun z1 => ?_) (fun z1 => ?_)
  ·
    refine V_iconst dX8_solve_139 ic_0 ?_
    refine V_istore dX8_solve_140 (Nat.le_of_ble_eq_true rfl) ?_
    refine V_iload_n dX8_solve_142 rfl rfl ?_
    refine V_iconst dX8_solve_143 ic_1 ?_
    refine V_isub dX8_solve_144 ?_
    refine V_istore dX8_solve_145 (Nat.le_of_ble_eq_true rfl) ?_
    exact V_sub (by exact (And.intro rfl (And.intro rfl (And.intro rfl (And.intro rfl (And.intro rfl (And.intro rfl (And.intro rfl (And.intro rfl True.intro))))))))) (q1 z1)
  ·
    refine V_aload_n dX8_solve_117 rfl rfl ?_
    refine V_get (ci := 8) (j := 28) (C0 := RX8) (T := TX8) (N := 33) dX8_solve_118 rfl g42 (by decide) (by decide) kf_X8_62 rfl ?_
    refine V_iload dX8_solve_121 rfl ?_
    refine V_iconst dX8_solve_123 ic_0 ?_
    refine V_iast dX8_solve_124 g60 (q2 z1) ?_
    refine V_aload_n dX8_solve_125 rfl rfl ?_
    refine V_get (ci := 8) (j := 31) (C0 := RX8) (T := TX8) (N := 33) dX8_solve_126 rfl g42 (by decide) (by decide) kf_X8_71 rfl ?_
    refine V_iload dX8_solve_129 rfl ?_
    refine V_iconst dX8_solve_131 ic_m1 ?_
    refine V_iast dX8_solve_132 g63 (q3 z1) ?_
    refine V_inc dX8_solve_133 ic_1 rfl (Nat.le_of_ble_eq_true rfl) ?_
    refine V_goto (t := 111) dX8_solve_136 (by decide) ?_
    exact V_sub (by exact (And.intro rfl (And.intro rfl (And.intro rfl (And.intro rfl (And.intro rfl (And.intro rfl (And.intro rfl True.intro)))))))) (q4 z1)
theorem tX8_solve_147 {G : gx} {b : bg} {h : ah} {Q : Option Value → ah → Prop} {x1 : Int32} {x2 : Int32} {x3 : Int32} {x4 : Int32} {x5 : Int32} {x6 : Int32} {x7 : Int32} (q1 : (x7 < (0 : Int32)) → V G mX8_solve b 433 [some (.ref 42), some (.int x1), some (.int x2), some (.int x3), some (.int x4), some (.int x5), some (.int x6), some (.int (0 : Int32))] [] h Q) (q2 : (¬ x7 < (0 : Int32)) → V G mX8_solve b 156 [some (.ref 42), some (.int x1), some (.int x2), some (.int x3), some (.int x4), some (.int x5), some (.int x6), some (.int x7), some (.int x6)] [] h Q) : V G mX8_solve b 147 [some (.ref 42), some (.int x1), some (.int x2), some (.int x3), some (.int x4), some (.int x5), some (.int x6), some (.int x7)] [] h Q := by
  refine V_iload dX8_solve_147 rfl ?_
  refine V_if_lt (t := 430) dX8_solve_149 (by decide) (fun z1 => ?_) (fun z1 => ?_)
  ·
    refine V_iconst dX8_solve_430 ic_0 ?_
    refine V_istore dX8_solve_431 (Nat.le_of_ble_eq_true rfl) ?_
    exact V_sub (by exact (And.intro rfl (And.intro rfl (And.intro rfl (And.intro rfl (And.intro rfl (And.intro rfl (And.intro rfl (And.intro rfl True.intro))))))))) (q1 z1)
  ·
    refine V_iload dX8_solve_152 rfl ?_
    refine V_istore dX8_solve_154 (Nat.le_of_ble_eq_true rfl) ?_
    exact V_sub (by exact (And.intro rfl (And.intro rfl (And.intro rfl (And.intro rfl (And.intro rfl (And.intro rfl (And.intro rfl (And.intro rfl (And.intro rfl True.intro)))))))))) (q2 z1)
theorem tX8_solve_156 {G : gx} {b : bg} {h : ah} {Q : Option Value → ah → Prop} {x1 : Int32} {x2 : Int32} {x3 : Int32} {x4 : Int32} {x5 : Int32} {x6 : Int32} {x7 : Int32} {x8 : Int32} {mk : Int32} {mn : Int32} {mall : Int32} {msum : Int32} {mexchanges : Int32} {mcycleMany : Int32} {mwhich : Int32} {mlatest : Int32} {mfirstFound : Int32} {mpartMany : Int32} {mlength : Int32} {mmatrix : Nat → Int32} (g42 : h 42 = (8, .inl [.int mk, .int mn, .int mall, .ref 43, .ref 44, .ref 45, .ref 46, .int msum, .ref 47, .int mexchanges, .ref 48, .ref 49, .ref 50, .ref 51, .int mcycleMany, .ref 52, .int mwhich, .ref 53, .ref 54, .ref 55, .ref 56, .ref 57, .ref 58, .int mlatest, .int mfirstFound, .int mpartMany, .ref 59, .int mlength, .ref 60, .ref 61, .ref 62, .ref 63, .ref 64])) (g64 : h 64 = (0, .inr (40602, .inl mmatrix))) (q1 : (x4 ≤ x8) → (x4 ≤ x8) → V G mX8_solve b 147 [some (.ref 42), some (.int x1), some (.int x2), some (.int x3), some (.int x4), some (.int x5), some (.int x6), some (.int (x7 + (-1 : Int32)))] [] h Q) (q2 : (x4 ≤ x8) → (¬ x4 ≤ x8) → vp_in ((x8 * x5) + x7) 40602) (q3 : (x4 ≤ x8) → (¬ x4 ≤ x8) → V G mX8_solve b 206 [some (.ref 42), some (.int x1), some (.int x2), some (.int x3), some (.int x4), some (.int x5), some (.int x6), some (.int x7), some (.int x8)] [.int (mmatrix ((x8 * x5) + x7).toNatClampNeg), .ref 42] h Q) (q4 : (¬ x4 ≤ x8) → vp_in ((x8 * x5) + x7) 40602) (q5 : (¬ x4 ≤ x8) → (¬ (mmatrix ((x8 * x5) + x7).toNatClampNeg) = (0 : Int32)) → (x4 ≤ x8) → V G mX8_solve b 147 [some (.ref 42), some (.int x1), some (.int x2), some (.int x3), some (.int x4), some (.int x5), some (.int x6), some (.int (x7 + (-1 : Int32)))] [] h Q) (q6 : (¬ x4 ≤ x8) → (¬ (mmatrix ((x8 * x5) + x7).toNatClampNeg) = (0 : Int32)) → (¬ x4 ≤ x8) → vp_in ((x8 * x5) + x7) 40602) (q7 : (¬ x4 ≤ x8) → (¬ (mmatrix ((x8 * x5) + x7).toNatClampNeg) = (0 : Int32)) → (¬ x4 ≤ x8) → V G mX8_solve b 206 [some (.ref 42), some (.int x1), some (.int x2), some (.int x3), some (.int x4), some (.int x5), some (.int x6), some (.int x7), some (.int x8)] [.int (mmatrix ((x8 * x5) + x7).toNatClampNeg), .ref 42] h Q) (q8 : (¬ x4 ≤ x8) → ((mmatrix ((x8 * x5) + x7).toNatClampNeg) = (0 : Int32)) → V G mX8_solve b 156 [some (.ref 42), some (.int x1), some (.int x2), some (.int x3), some (.int x4), some (.int x5), some (.int x6), some (.int x7), some (.int (x8 + (1 : Int32)))] [] h Q) : V G mX8_solve b 156 [some (.ref 42), some (.int x1), some (.int x2), some (.int x3), some (.int x4), some (.int x5), some (.int x6), some (.int x7), some (.int x8)] [] h Q := by
  refine V_iload dX8_solve_156 rfl ?_
  refine V_iload dX8_solve_158 rfl ?_
  refine V_icmp_ge (t := 185) dX8_solve_160 (by decide) (fun z1 => ?_) (fun z1 => ?_)
  ·
    refine V_iload dX8_solve_185 rfl ?_
    refine V_iload dX8_solve_187 rfl ?_
    refine V_icmp_ge (t := 424) dX8_solve_189 (by decide) (fun z2 => ?_) (fun z2 => ?_)
    ·
      refine V_inc dX8_solve_424 ic_m1 rfl (Nat.le_of_ble_eq_true rfl) ?_
      refine V_goto (t := 147) dX8_solve_427 (by decide) ?_
      exact V_sub (by exact (And.intro rfl (And.intro rfl (And.intro rfl (And.intro rfl (And.intro rfl (And.intro rfl (And.intro rfl (And.intro rfl True.intro))))))))) (q1 z1 z2)
    ·
      refine V_aload_n dX8_solve_192 rfl rfl ?_
      refine V_aload_n dX8_solve_193 rfl rfl ?_
      refine V_get (ci := 8) (j := 32) (C0 := RX8) (T := TX8) (N := 33) dX8_solve_194 rfl g42 (by decide) (by decide) kf_X8_75 rfl ?_
      refine V_iload dX8_solve_197 rfl ?_
      refine V_iload dX8_solve_199 rfl ?_
      refine V_imul dX8_solve_201 ?_
      refine V_iload dX8_solve_202 rfl ?_
      refine V_iadd dX8_solve_204 ?_
      refine V_iald dX8_solve_205 g64 (q2 z1 z2) ?_
      exact V_sub (by exact (And.intro rfl (And.intro rfl (And.intro rfl (And.intro rfl (And.intro rfl (And.intro rfl (And.intro rfl (And.intro rfl (And.intro rfl True.intro)))))))))) (q3 z1 z2)
  ·
    refine V_aload_n dX8_solve_163 rfl rfl ?_
    refine V_get (ci := 8) (j := 32) (C0 := RX8) (T := TX8) (N := 33) dX8_solve_164 rfl g42 (by decide) (by decide) kf_X8_75 rfl ?_
    refine V_iload dX8_solve_167 rfl ?_
    refine V_iload dX8_solve_169 rfl ?_
    refine V_imul dX8_solve_171 ?_
    refine V_iload dX8_solve_172 rfl ?_
    refine V_iadd dX8_solve_174 ?_
    refine V_iald dX8_solve_175 g64 (q4 z1) ?_
    refine V_if_ne (t := 185) dX8_solve_176 (by decide) (fun z3 => ?_) (fun z3 => ?_)
    ·
      refine V_iload dX8_solve_185 rfl ?_
      refine V_iload dX8_solve_187 rfl ?_
      refine V_icmp_ge (t := 424) dX8_solve_189 (by decide) (fun z4 => ?_) (fun z4 => ?_)
      ·
        refine V_inc dX8_solve_424 ic_m1 rfl (Nat.le_of_ble_eq_true rfl) ?_
        refine V_goto (t := 147) dX8_solve_427 (by decide) ?_
        exact V_sub (by exact (And.intro rfl (And.intro rfl (And.intro rfl (And.intro rfl (And.intro rfl (And.intro rfl (And.intro rfl (And.intro rfl True.intro))))))))) (q5 z1 z3 z4)
      ·
        refine V_aload_n dX8_solve_192 rfl rfl ?_
        refine V_aload_n dX8_solve_193 rfl rfl ?_
        refine V_get (ci := 8) (j := 32) (C0 := RX8) (T := TX8) (N := 33) dX8_solve_194 rfl g42 (by decide) (by decide) kf_X8_75 rfl ?_
        refine V_iload dX8_solve_197 rfl ?_
        refine V_iload dX8_solve_199 rfl ?_
        refine V_imul dX8_solve_201 ?_
        refine V_iload dX8_solve_202 rfl ?_
        refine V_iadd dX8_solve_204 ?_
        refine V_iald dX8_solve_205 g64 (q6 z1 z3 z4) ?_
        exact V_sub (by exact (And.intro rfl (And.intro rfl (And.intro rfl (And.intro rfl (And.intro rfl (And.intro rfl (And.intro rfl (And.intro rfl (And.intro rfl True.intro)))))))))) (q7 z1 z3 z4)
    ·
      refine V_inc dX8_solve_179 ic_1 rfl (Nat.le_of_ble_eq_true rfl) ?_
      refine V_goto (t := 156) dX8_solve_182 (by decide) ?_
      exact V_sub (by exact (And.intro rfl (And.intro rfl (And.intro rfl (And.intro rfl (And.intro rfl (And.intro rfl (And.intro rfl (And.intro rfl (And.intro rfl True.intro)))))))))) (q8 z1 z3)
theorem tX8_solve_214 {G : gx} {b : bg} {h : ah} {Q : Option Value → ah → Prop} {x1 : Int32} {x2 : Int32} {x3 : Int32} {x4 : Int32} {x5 : Int32} {x6 : Int32} {x7 : Int32} {x8 : Int32} {x9 : Int32} {x10 : Int32} {mk : Int32} {mn : Int32} {mall : Int32} {msum : Int32} {mexchanges : Int32} {mcycleMany : Int32} {mwhich : Int32} {mlatest : Int32} {mfirstFound : Int32} {mpartMany : Int32} {mlength : Int32} {mmatrix : Nat → Int32} (g42 : h 42 = (8, .inl [.int mk, .int mn, .int mall, .ref 43, .ref 44, .ref 45, .ref 46, .int msum, .ref 47, .int mexchanges, .ref 48, .ref 49, .ref 50, .ref 51, .int mcycleMany, .ref 52, .int mwhich, .ref 53, .ref 54, .ref 55, .ref 56, .ref 57, .ref 58, .int mlatest, .int mfirstFound, .int mpartMany, .ref 59, .int mlength, .ref 60, .ref 61, .ref 62, .ref 63, .ref 64])) (g64 : h 64 = (0, .inr (40602, .inl mmatrix))) (q1 : (x5 ≤ x10) → V G mX8_solve b 294 [some (.ref 42), some (.int x1), some (.int x2), some (.int x3), some (.int x4), some (.int x5), some (.int x6), some (.int x7), some (.int x8), some (.int x9), some (.int (0 : Int32))] [] h Q) (q2 : (¬ x5 ≤ x10) → vp_in ((x8 * x5) + x10) 40602) (q3 : (¬ x5 ≤ x10) → ¬ mk = 0) (q4 : (¬ x5 ≤ x10) → vp_in ((x6 * x5) + x10) 40602) (q5 : (¬ x5 ≤ x10) → vp_in ((x8 * x5) + x10) 40602) (q6 : (¬ x5 ≤ x10) → vp_in ((x6 * x5) + x10) 40602) (q7 : (¬ x5 ≤ x10) → V G mX8_solve b 214 [some (.ref 42), some (.int x1), some (.int x2), some (.int x3), some (.int x4), some (.int x5), some (.int x6), some (.int x7), some (.int x8), some (.int x9), some (.int (x10 + (1 : Int32)))] [] (va_up (va_up h 64 (0, .inr (40602, .inl (upd mmatrix ((x8 * x5) + x10).toNatClampNeg (mmatrix ((x6 * x5) + x10).toNatClampNeg))))) 64 (0, .inr (40602, .inl (upd (upd mmatrix ((x8 * x5) + x10).toNatClampNeg (mmatrix ((x6 * x5) + x10).toNatClampNeg)) ((x6 * x5) + x10).toNatClampNeg (((mmatrix ((x8 * x5) + x10).toNatClampNeg) * x9) - ((mmatrix ((x8 * x5) + x10).toNatClampNeg) * x9) / mk * mk))))) Q) : V G mX8_solve b 214 [some (.ref 42), some (.int x1), some (.int x2), some (.int x3), some (.int x4), some (.int x5), some (.int x6), some (.int x7), some (.int x8), some (.int x9), some (.int x10)] [] h Q := by
  refine V_iload dX8_solve_214 rfl ?_
  refine V_iload dX8_solve_216 rfl ?_
  refine V_icmp_ge (t := 291) dX8_solve_218 (by decide) (fun z1 => ?_) (fun z1 => ?_)
  ·
    refine V_iconst dX8_solve_291 ic_0 ?_
    refine V_istore dX8_solve_292 (Nat.le_of_ble_eq_true rfl) ?_
    exact V_sub (by exact (And.intro rfl (And.intro rfl (And.intro rfl (And.intro rfl (And.intro rfl (And.intro rfl (And.intro rfl (And.intro rfl (And.intro rfl (And.intro rfl (And.intro rfl True.intro)))))))))))) (q1 z1)
  ·
    refine V_aload_n dX8_solve_221 rfl rfl ?_
    refine V_get (ci := 8) (j := 32) (C0 := RX8) (T := TX8) (N := 33) dX8_solve_222 rfl g42 (by decide) (by decide) kf_X8_75 rfl ?_
    refine V_iload dX8_solve_225 rfl ?_
    refine V_iload dX8_solve_227 rfl ?_
    refine V_imul dX8_solve_229 ?_
    refine V_iload dX8_solve_230 rfl ?_
    refine V_iadd dX8_solve_232 ?_
    refine V_iald dX8_solve_233 g64 (q2 z1) ?_
    refine V_iload dX8_solve_234 rfl ?_
    refine V_imul dX8_solve_236 ?_
    refine V_aload_n dX8_solve_237 rfl rfl ?_
    refine V_get (ci := 8) (j := 0) (C0 := RX8) (T := TX8) (N := 33) dX8_solve_238 rfl g42 (by decide) (by decide) kf_X8_92 rfl ?_
    refine V_irem dX8_solve_241 (q3 z1) ?_
    refine V_istore dX8_solve_242 (Nat.le_of_ble_eq_true rfl) ?_
    refine V_aload_n dX8_solve_244 rfl rfl ?_
    refine V_get (ci := 8) (j := 32) (C0 := RX8) (T := TX8) (N := 33) dX8_solve_245 rfl g42 (by decide) (by decide) kf_X8_75 rfl ?_
    refine V_iload dX8_solve_248 rfl ?_
    refine V_iload dX8_solve_250 rfl ?_
    refine V_imul dX8_solve_252 ?_
    refine V_iload dX8_solve_253 rfl ?_
    refine V_iadd dX8_solve_255 ?_
    refine V_aload_n dX8_solve_256 rfl rfl ?_
    refine V_get (ci := 8) (j := 32) (C0 := RX8) (T := TX8) (N := 33) dX8_solve_257 rfl g42 (by decide) (by decide) kf_X8_75 rfl ?_
    refine V_iload dX8_solve_260 rfl ?_
    refine V_iload dX8_solve_262 rfl ?_
    refine V_imul dX8_solve_264 ?_
    refine V_iload dX8_solve_265 rfl ?_
    refine V_iadd dX8_solve_267 ?_
    refine V_iald dX8_solve_268 g64 (q4 z1) ?_
    refine V_iast dX8_solve_269 g64 (q5 z1) ?_
    refine V_aload_n dX8_solve_270 rfl rfl ?_
    refine V_get (ci := 8) (j := 32) (C0 := RX8) (T := TX8) (N := 33) dX8_solve_271 rfl g42 (by decide) (by decide) kf_X8_75 rfl ?_
    refine V_iload dX8_solve_274 rfl ?_
    refine V_iload dX8_solve_276 rfl ?_
    refine V_imul dX8_solve_278 ?_
    refine V_iload dX8_solve_279 rfl ?_
    refine V_iadd dX8_solve_281 ?_
    refine V_iload dX8_solve_282 rfl ?_
    refine V_iast dX8_solve_284 rfl (q6 z1) ?_
    refine V_inc dX8_solve_285 ic_1 rfl (Nat.le_of_ble_eq_true rfl) ?_
    refine V_goto (t := 214) dX8_solve_288 (by decide) ?_
    exact V_sub (by exact (And.intro rfl (And.intro rfl (And.intro rfl (And.intro rfl (And.intro rfl (And.intro rfl (And.intro rfl (And.intro rfl (And.intro rfl (And.intro rfl (And.intro rfl True.intro)))))))))))) (q7 z1)
theorem tX8_solve_294 {G : gx} {b : bg} {h : ah} {Q : Option Value → ah → Prop} {x1 : Int32} {x2 : Int32} {x3 : Int32} {x4 : Int32} {x5 : Int32} {x6 : Int32} {x7 : Int32} {x8 : Int32} {x9 : Int32} {x10 : Int32} {mk : Int32} {mn : Int32} {mall : Int32} {msum : Int32} {mexchanges : Int32} {mcycleMany : Int32} {mwhich : Int32} {mlatest : Int32} {mfirstFound : Int32} {mpartMany : Int32} {mlength : Int32} {mkept : Nat → Int32} {mmatrix : Nat → Int32} (g42 : h 42 = (8, .inl [.int mk, .int mn, .int mall, .ref 43, .ref 44, .ref 45, .ref 46, .int msum, .ref 47, .int mexchanges, .ref 48, .ref 49, .ref 50, .ref 51, .int mcycleMany, .ref 52, .int mwhich, .ref 53, .ref 54, .ref 55, .ref 56, .ref 57, .ref 58, .int mlatest, .int mfirstFound, .int mpartMany, .ref 59, .int mlength, .ref 60, .ref 61, .ref 62, .ref 63, .ref 64])) (g63 : h 63 = (0, .inr (202, .inl mkept))) (g64 : h 64 = (0, .inr (40602, .inl mmatrix))) (q1 : (x4 ≤ x10) → vp_in x7 202) (q2 : (x4 ≤ x10) → V G mX8_solve b 147 [some (.ref 42), some (.int x1), some (.int x2), some (.int x3), some (.int x4), some (.int x5), some (.int (x6 + (1 : Int32))), some (.int (x7 + (-1 : Int32)))] [] (va_up h 63 (0, .inr (202, .inl (upd mkept x7.toNatClampNeg x6)))) Q) (q3 : (¬ x4 ≤ x10) → (¬ x10 = x6) → vp_in ((x10 * x5) + x7) 40602) (q4 : (¬ x4 ≤ x10) → (¬ x10 = x6) → V G mX8_solve b 335 [some (.ref 42), some (.int x1), some (.int x2), some (.int x3), some (.int x4), some (.int x5), some (.int x6), some (.int x7), some (.int x8), some (.int x9), some (.int x10), some (.int (mk - (mmatrix ((x10 * x5) + x7).toNatClampNeg))), some (.int (0 : Int32))] [] h Q) (q5 : (¬ x4 ≤ x10) → (x10 = x6) → V G mX8_solve b 335 [some (.ref 42), some (.int x1), some (.int x2), some (.int x3), some (.int x4), some (.int x5), some (.int x6), some (.int x7), some (.int x8), some (.int x9), some (.int x10), some (.int (0 : Int32)), some (.int (0 : Int32))] [] h Q) : V G mX8_solve b 294 [some (.ref 42), some (.int x1), some (.int x2), some (.int x3), some (.int x4), some (.int x5), some (.int x6), some (.int x7), some (.int x8), some (.int x9), some (.int x10)] [] h Q := by
  refine V_iload dX8_solve_294 rfl ?_
  refine V_iload dX8_solve_296 rfl ?_
  refine V_icmp_ge (t := 412) dX8_solve_298 (by decide) (fun z1 => ?_) (fun z1 => ?_)
  ·
    refine V_aload_n dX8_solve_412 rfl rfl ?_
    refine V_get (ci := 8) (j := 31) (C0 := RX8) (T := TX8) (N := 33) dX8_solve_413 rfl g42 (by decide) (by decide) kf_X8_71 rfl ?_
    refine V_iload dX8_solve_416 rfl ?_
    refine V_iload dX8_solve_418 rfl ?_
    refine V_iast dX8_solve_420 g63 (q1 z1) ?_
    refine V_inc dX8_solve_421 ic_1 rfl (Nat.le_of_ble_eq_true rfl) ?_
    refine V_inc dX8_solve_424 ic_m1 rfl (Nat.le_of_ble_eq_true rfl) ?_
    refine V_goto (t := 147) dX8_solve_427 (by decide) ?_
    exact V_sub (by exact (And.intro rfl (And.intro rfl (And.intro rfl (And.intro rfl (And.intro rfl (And.intro rfl (And.intro rfl (And.intro rfl True.intro))))))))) (q2 z1)
  ·
    refine V_iload dX8_solve_301 rfl ?_
    refine V_iload dX8_solve_303 rfl ?_
    refine V_icmp_ne (t := 312) dX8_solve_305 (by decide) (fun z2 => ?_) (fun z2 => ?_)
    ·
      refine V_aload_n dX8_solve_312 rfl rfl ?_
      refine V_get (ci := 8) (j := 0) (C0 := RX8) (T := TX8) (N := 33) dX8_solve_313 rfl g42 (by decide) (by decide) kf_X8_92 rfl ?_
      refine V_aload_n dX8_solve_316 rfl rfl ?_
      refine V_get (ci := 8) (j := 32) (C0 := RX8) (T := TX8) (N := 33) dX8_solve_317 rfl g42 (by decide) (by decide) kf_X8_75 rfl ?_
      refine V_iload dX8_solve_320 rfl ?_
      refine V_iload dX8_solve_322 rfl ?_
      refine V_imul dX8_solve_324 ?_
      refine V_iload dX8_solve_325 rfl ?_
      refine V_iadd dX8_solve_327 ?_
      refine V_iald dX8_solve_328 g64 (q3 z1 z2) ?_
      refine V_isub dX8_solve_329 ?_
      refine V_istore dX8_solve_330 (Nat.le_of_ble_eq_true rfl) ?_
      refine V_iconst dX8_solve_332 ic_0 ?_
      refine V_istore dX8_solve_333 (Nat.le_of_ble_eq_true rfl) ?_
      exact V_sub (by exact (And.intro rfl (And.intro rfl (And.intro rfl (And.intro rfl (And.intro rfl (And.intro rfl (And.intro rfl (And.intro rfl (And.intro rfl (And.intro rfl (And.intro rfl (And.intro rfl (And.intro rfl True.intro)))))))))))))) (q4 z1 z2)
    ·
      refine V_iconst dX8_solve_308 ic_0 ?_
      refine V_goto (t := 330) dX8_solve_309 (by decide) ?_
      refine V_istore dX8_solve_330 (Nat.le_of_ble_eq_true rfl) ?_
      refine V_iconst dX8_solve_332 ic_0 ?_
      refine V_istore dX8_solve_333 (Nat.le_of_ble_eq_true rfl) ?_
      exact V_sub (by exact (And.intro rfl (And.intro rfl (And.intro rfl (And.intro rfl (And.intro rfl (And.intro rfl (And.intro rfl (And.intro rfl (And.intro rfl (And.intro rfl (And.intro rfl (And.intro rfl (And.intro rfl True.intro)))))))))))))) (q5 z1 z2)
theorem tX8_solve_335 {G : gx} {b : bg} {h : ah} {Q : Option Value → ah → Prop} {x1 : Int32} {x2 : Int32} {x3 : Int32} {x4 : Int32} {x5 : Int32} {x6 : Int32} {x7 : Int32} {x8 : Int32} {x9 : Int32} {x10 : Int32} {x11 : Int32} {x12 : Int32} {mk : Int32} {mn : Int32} {mall : Int32} {msum : Int32} {mexchanges : Int32} {mcycleMany : Int32} {mwhich : Int32} {mlatest : Int32} {mfirstFound : Int32} {mpartMany : Int32} {mlength : Int32} {mmatrix : Nat → Int32} (g42 : h 42 = (8, .inl [.int mk, .int mn, .int mall, .ref 43, .ref 44, .ref 45, .ref 46, .int msum, .ref 47, .int mexchanges, .ref 48, .ref 49, .ref 50, .ref 51, .int mcycleMany, .ref 52, .int mwhich, .ref 53, .ref 54, .ref 55, .ref 56, .ref 57, .ref 58, .int mlatest, .int mfirstFound, .int mpartMany, .ref 59, .int mlength, .ref 60, .ref 61, .ref 62, .ref 63, .ref 64])) (g64 : h 64 = (0, .inr (40602, .inl mmatrix))) (q1 : (x5 ≤ x12) → V G mX8_solve b 294 [some (.ref 42), some (.int x1), some (.int x2), some (.int x3), some (.int x4), some (.int x5), some (.int x6), some (.int x7), some (.int x8), some (.int x9), some (.int (x10 + (1 : Int32)))] [] h Q) (q2 : (¬ x5 ≤ x12) → ¬ mk = 0) (q3 : (¬ x5 ≤ x12) → ((x11 - x11 / mk * mk) = (0 : Int32)) → V G mX8_solve b 294 [some (.ref 42), some (.int x1), some (.int x2), some (.int x3), some (.int x4), some (.int x5), some (.int x6), some (.int x7), some (.int x8), some (.int x9), some (.int (x10 + (1 : Int32)))] [] h Q) (q4 : (¬ x5 ≤ x12) → (¬ (x11 - x11 / mk * mk) = (0 : Int32)) → vp_in ((x10 * x5) + x12) 40602) (q5 : (¬ x5 ≤ x12) → (¬ (x11 - x11 / mk * mk) = (0 : Int32)) → vp_in ((x6 * x5) + x12) 40602) (q6 : (¬ x5 ≤ x12) → (¬ (x11 - x11 / mk * mk) = (0 : Int32)) → ¬ mk = 0) (q7 : (¬ x5 ≤ x12) → (¬ (x11 - x11 / mk * mk) = (0 : Int32)) → vp_in ((x10 * x5) + x12) 40602) (q8 : (¬ x5 ≤ x12) → (¬ (x11 - x11 / mk * mk) = (0 : Int32)) → V G mX8_solve b 335 [some (.ref 42), some (.int x1), some (.int x2), some (.int x3), some (.int x4), some (.int x5), some (.int x6), some (.int x7), some (.int x8), some (.int x9), some (.int x10), some (.int x11), some (.int (x12 + (1 : Int32)))] [] (va_up h 64 (0, .inr (40602, .inl (upd mmatrix ((x10 * x5) + x12).toNatClampNeg (((mmatrix ((x10 * x5) + x12).toNatClampNeg) + (x11 * (mmatrix ((x6 * x5) + x12).toNatClampNeg))) - ((mmatrix ((x10 * x5) + x12).toNatClampNeg) + (x11 * (mmatrix ((x6 * x5) + x12).toNatClampNeg))) / mk * mk))))) Q) : V G mX8_solve b 335 [some (.ref 42), some (.int x1), some (.int x2), some (.int x3), some (.int x4), some (.int x5), some (.int x6), some (.int x7), some (.int x8), some (.int x9), some (.int x10), some (.int x11), some (.int x12)] [] h Q := by
  refine V_iload dX8_solve_335 rfl ?_
  refine V_iload dX8_solve_337 rfl ?_
  refine V_icmp_ge (t := 406) dX8_solve_339 (by decide) (fun z1 => ?_) (fun z1 => ?_)
  ·
    refine V_inc dX8_solve_406 ic_1 rfl (Nat.le_of_ble_eq_true rfl) ?_
    refine V_goto (t := 294) dX8_solve_409 (by decide) ?_
    exact V_sub (by exact (And.intro rfl (And.intro rfl (And.intro rfl (And.intro rfl (And.intro rfl (And.intro rfl (And.intro rfl (And.intro rfl (And.intro rfl (And.intro rfl (And.intro rfl True.intro)))))))))))) (q1 z1)
  ·
    refine V_iload dX8_solve_342 rfl ?_
    refine V_aload_n dX8_solve_344 rfl rfl ?_
    refine V_get (ci := 8) (j := 0) (C0 := RX8) (T := TX8) (N := 33) dX8_solve_345 rfl g42 (by decide) (by decide) kf_X8_92 rfl ?_
    refine V_irem dX8_solve_348 (q2 z1) ?_
    refine V_if_eq (t := 406) dX8_solve_349 (by decide) (fun z2 => ?_) (fun z2 => ?_)
    ·
      refine V_inc dX8_solve_406 ic_1 rfl (Nat.le_of_ble_eq_true rfl) ?_
      refine V_goto (t := 294) dX8_solve_409 (by decide) ?_
      exact V_sub (by exact (And.intro rfl (And.intro rfl (And.intro rfl (And.intro rfl (And.intro rfl (And.intro rfl (And.intro rfl (And.intro rfl (And.intro rfl (And.intro rfl (And.intro rfl True.intro)))))))))))) (q3 z1 z2)
    ·
      refine V_aload_n dX8_solve_352 rfl rfl ?_
      refine V_get (ci := 8) (j := 32) (C0 := RX8) (T := TX8) (N := 33) dX8_solve_353 rfl g42 (by decide) (by decide) kf_X8_75 rfl ?_
      refine V_iload dX8_solve_356 rfl ?_
      refine V_iload dX8_solve_358 rfl ?_
      refine V_imul dX8_solve_360 ?_
      refine V_iload dX8_solve_361 rfl ?_
      refine V_iadd dX8_solve_363 ?_
      refine V_aload_n dX8_solve_364 rfl rfl ?_
      refine V_get (ci := 8) (j := 32) (C0 := RX8) (T := TX8) (N := 33) dX8_solve_365 rfl g42 (by decide) (by decide) kf_X8_75 rfl ?_
      refine V_iload dX8_solve_368 rfl ?_
      refine V_iload dX8_solve_370 rfl ?_
      refine V_imul dX8_solve_372 ?_
      refine V_iload dX8_solve_373 rfl ?_
      refine V_iadd dX8_solve_375 ?_
      refine V_iald dX8_solve_376 g64 (q4 z1 z2) ?_
      refine V_iload dX8_solve_377 rfl ?_
      refine V_aload_n dX8_solve_379 rfl rfl ?_
      refine V_get (ci := 8) (j := 32) (C0 := RX8) (T := TX8) (N := 33) dX8_solve_380 rfl g42 (by decide) (by decide) kf_X8_75 rfl ?_
      refine V_iload dX8_solve_383 rfl ?_
      refine V_iload dX8_solve_385 rfl ?_
      refine V_imul dX8_solve_387 ?_
      refine V_iload dX8_solve_388 rfl ?_
      refine V_iadd dX8_solve_390 ?_
      refine V_iald dX8_solve_391 g64 (q5 z1 z2) ?_
      refine V_imul dX8_solve_392 ?_
      refine V_iadd dX8_solve_393 ?_
      refine V_aload_n dX8_solve_394 rfl rfl ?_
      refine V_get (ci := 8) (j := 0) (C0 := RX8) (T := TX8) (N := 33) dX8_solve_395 rfl g42 (by decide) (by decide) kf_X8_92 rfl ?_
      refine V_irem dX8_solve_398 (q6 z1 z2) ?_
      refine V_iast dX8_solve_399 g64 (q7 z1 z2) ?_
      refine V_inc dX8_solve_400 ic_1 rfl (Nat.le_of_ble_eq_true rfl) ?_
      refine V_goto (t := 335) dX8_solve_403 (by decide) ?_
      exact V_sub (by exact (And.intro rfl (And.intro rfl (And.intro rfl (And.intro rfl (And.intro rfl (And.intro rfl (And.intro rfl (And.intro rfl (And.intro rfl (And.intro rfl (And.intro rfl (And.intro rfl (And.intro rfl True.intro)))))))))))))) (q8 z1 z2)
theorem tX8_solve_433 {G : gx} {b : bg} {h : ah} {Q : Option Value → ah → Prop} {x1 : Int32} {x2 : Int32} {x3 : Int32} {x4 : Int32} {x5 : Int32} {x6 : Int32} {x7 : Int32} {mk : Int32} {mn : Int32} {mall : Int32} {msum : Int32} {mexchanges : Int32} {mcycleMany : Int32} {mwhich : Int32} {mlatest : Int32} {mfirstFound : Int32} {mpartMany : Int32} {mlength : Int32} {mkept : Nat → Int32} {mmatrix : Nat → Int32} {mtold : Nat → Int32} (g42 : h 42 = (8, .inl [.int mk, .int mn, .int mall, .ref 43, .ref 44, .ref 45, .ref 46, .int msum, .ref 47, .int mexchanges, .ref 48, .ref 49, .ref 50, .ref 51, .int mcycleMany, .ref 52, .int mwhich, .ref 53, .ref 54, .ref 55, .ref 56, .ref 57, .ref 58, .int mlatest, .int mfirstFound, .int mpartMany, .ref 59, .int mlength, .ref 60, .ref 61, .ref 62, .ref 63, .ref 64])) (g63 : h 63 = (0, .inr (202, .inl mkept))) (g64 : h 64 = (0, .inr (40602, .inl mmatrix))) (g60 : h 60 = (0, .inr (201, .inl mtold))) (q1 : (x2 ≤ x7) → Q none h) (q2 : (¬ x2 ≤ x7) → vp_in x7 202) (q3 : (¬ x2 ≤ x7) → (¬ (mkept x7.toNatClampNeg) = (-1 : Int32)) → vp_in x7 202) (q4 : (¬ x2 ≤ x7) → (¬ (mkept x7.toNatClampNeg) = (-1 : Int32)) → vp_in (((mkept x7.toNatClampNeg) * x5) + x2) 40602) (q5 : (¬ x2 ≤ x7) → (¬ (mkept x7.toNatClampNeg) = (-1 : Int32)) → vp_in (x7 + (1 : Int32)) 201) (q6 : (¬ x2 ≤ x7) → (¬ (mkept x7.toNatClampNeg) = (-1 : Int32)) → V G mX8_solve b 433 [some (.ref 42), some (.int x1), some (.int x2), some (.int x3), some (.int x4), some (.int x5), some (.int x6), some (.int (x7 + (1 : Int32)))] [] (va_up h 60 (0, .inr (201, .inl (upd mtold (x7 + (1 : Int32)).toNatClampNeg (mmatrix (((mkept x7.toNatClampNeg) * x5) + x2).toNatClampNeg))))) Q) (q7 : (¬ x2 ≤ x7) → ((mkept x7.toNatClampNeg) = (-1 : Int32)) → vp_in (x7 + (1 : Int32)) 201) (q8 : (¬ x2 ≤ x7) → ((mkept x7.toNatClampNeg) = (-1 : Int32)) → V G mX8_solve b 433 [some (.ref 42), some (.int x1), some (.int x2), some (.int x3), some (.int x4), some (.int x5), some (.int x6), some (.int (x7 + (1 : Int32)))] [] (va_up h 60 (0, .inr (201, .inl (upd mtold (x7 + (1 : Int32)).toNatClampNeg (0 : Int32))))) Q) : V G mX8_solve b 433 [some (.ref 42), some (.int x1), some (.int x2), some (.int x3), some (.int x4), some (.int x5), some (.int x6), some (.int x7)] [] h Q := by
  refine V_iload dX8_solve_433 rfl ?_
  refine V_iload_n dX8_solve_435 rfl rfl ?_
  refine V_icmp_ge (t := 486) dX8_solve_436 (by decide) (fun z1 => ?_) (fun z1 => ?_)
  ·
    exact V_vret dX8_solve_486 rfl (q1 z1)
  ·
    refine V_aload_n dX8_solve_439 rfl rfl ?_
    refine V_get (ci := 8) (j := 28) (C0 := RX8) (T := TX8) (N := 33) dX8_solve_440 rfl g42 (by decide) (by decide) kf_X8_62 rfl ?_
    refine V_iload dX8_solve_443 rfl ?_
    refine V_iconst dX8_solve_445 ic_1 ?_
    refine V_iadd dX8_solve_446 ?_
    refine V_aload_n dX8_solve_447 rfl rfl ?_
    refine V_get (ci := 8) (j := 31) (C0 := RX8) (T := TX8) (N := 33) dX8_solve_448 rfl g42 (by decide) (by decide) kf_X8_71 rfl ?_
    refine V_iload dX8_solve_451 rfl ?_
    refine V_iald dX8_solve_453 g63 (q2 z1) ?_
    refine V_iconst dX8_solve_454 ic_m1 ?_
    refine V_icmp_ne (t := 462) dX8_solve_455 (by decide) (fun z2 => ?_) (fun z2 => ?_)
    ·
      refine V_aload_n dX8_solve_462 rfl rfl ?_
      refine V_get (ci := 8) (j := 32) (C0 := RX8) (T := TX8) (N := 33) dX8_solve_463 rfl g42 (by decide) (by decide) kf_X8_75 rfl ?_
      refine V_aload_n dX8_solve_466 rfl rfl ?_
      refine V_get (ci := 8) (j := 31) (C0 := RX8) (T := TX8) (N := 33) dX8_solve_467 rfl g42 (by decide) (by decide) kf_X8_71 rfl ?_
      refine V_iload dX8_solve_470 rfl ?_
      refine V_iald dX8_solve_472 g63 (q3 z1 z2) ?_
      refine V_iload dX8_solve_473 rfl ?_
      refine V_imul dX8_solve_475 ?_
      refine V_iload_n dX8_solve_476 rfl rfl ?_
      refine V_iadd dX8_solve_477 ?_
      refine V_iald dX8_solve_478 g64 (q4 z1 z2) ?_
      refine V_iast dX8_solve_479 g60 (q5 z1 z2) ?_
      refine V_inc dX8_solve_480 ic_1 rfl (Nat.le_of_ble_eq_true rfl) ?_
      refine V_goto (t := 433) dX8_solve_483 (by decide) ?_
      exact V_sub (by exact (And.intro rfl (And.intro rfl (And.intro rfl (And.intro rfl (And.intro rfl (And.intro rfl (And.intro rfl (And.intro rfl True.intro))))))))) (q6 z1 z2)
    ·
      refine V_iconst dX8_solve_458 ic_0 ?_
      refine V_goto (t := 479) dX8_solve_459 (by decide) ?_
      refine V_iast dX8_solve_479 g60 (q7 z1 z2) ?_
      refine V_inc dX8_solve_480 ic_1 rfl (Nat.le_of_ble_eq_true rfl) ?_
      refine V_goto (t := 433) dX8_solve_483 (by decide) ?_
      exact V_sub (by exact (And.intro rfl (And.intro rfl (And.intro rfl (And.intro rfl (And.intro rfl (And.intro rfl (And.intro rfl (And.intro rfl True.intro))))))))) (q8 z1 z2)
theorem tX8_solve_209 {G : gx} {b : bg} {h : ah} {Q : Option Value → ah → Prop} {x1 : Int32} {x2 : Int32} {x3 : Int32} {x4 : Int32} {x5 : Int32} {x6 : Int32} {x7 : Int32} {x8 : Int32} {s0 : Int32} (q1 : V G mX8_solve b 214 [some (.ref 42), some (.int x1), some (.int x2), some (.int x3), some (.int x4), some (.int x5), some (.int x6), some (.int x7), some (.int x8), some (.int s0), some (.int (0 : Int32))] [] h Q) : V G mX8_solve b 209 [some (.ref 42), some (.int x1), some (.int x2), some (.int x3), some (.int x4), some (.int x5), some (.int x6), some (.int x7), some (.int x8)] [.int s0] h Q := by
  refine V_istore dX8_solve_209 (Nat.le_of_ble_eq_true rfl) ?_
  refine V_iconst dX8_solve_211 ic_0 ?_
  refine V_istore dX8_solve_212 (Nat.le_of_ble_eq_true rfl) ?_
  exact V_sub (by exact (And.intro rfl (And.intro rfl (And.intro rfl (And.intro rfl (And.intro rfl (And.intro rfl (And.intro rfl (And.intro rfl (And.intro rfl (And.intro rfl (And.intro rfl True.intro)))))))))))) (q1)
theorem cX8_solve_206 {G : gx} {d mc ms cc zz d2 mc2 ms2 : Nat} {L : List (Option Value)} {S : List Value} {h : ah} {Q Q2 : Option Value → ah → Prop} {k : Nat} {fs : List Value} {a0 : Value} (hM : Ct G mX8_inverse d2 mc2 ms2 (.ref (k + 2) :: [a0]) h Q2) (hc : h (k + 2) = (8, .inl fs)) (hdd : d2 < d ∧ d ≤ 9) (hrm : (S.map fun v => v.category).sum ≤ 8) (hf : cc + mc2 ≤ mc ∧ zz + ms2 ≤ ms) (kk : ∀ r h2, Q2 r h2 → V G mX8_solve (d, mc, ms, cc + mc2, zz + ms2) 209 L (r.toList ++ S) h2 Q) : V G mX8_solve (d, mc, ms, cc, zz) 206 L (a0 :: .ref (k + 2) :: S) h Q := V_callV (ci := 8) (T := TX8) (N := 33) hM dX8_solve_206 ⟨km_X8_192, ki_X8_inverse, ks_X8_inverse⟩ cw_X8_inverse rfl hc (by decide) hdd rfl rfl hrm hf kk
theorem tX8_recurrence_0 {G : gx} {b : bg} {h : ah} {Q : Option Value → ah → Prop} {x1 : Int32} (q1 : V G mX8_recurrence b 1 [some (.ref 42), some (.int x1)] [.int x1] h Q) : V G mX8_recurrence b 0 [some (.ref 42), some (.int x1)] [] h Q := by
  refine V_iload_n dX8_recurrence_0 rfl rfl ?_
  exact V_sub (by exact (And.intro rfl (And.intro rfl True.intro))) (q1)
theorem tX8_recurrence_4 {G : gx} {b : bg} {h : ah} {Q : Option Value → ah → Prop} {x1 : Int32} {s0 : Int32} {mk : Int32} {mn : Int32} {mall : Int32} {msum : Int32} {mexchanges : Int32} {mcycleMany : Int32} {mwhich : Int32} {mlatest : Int32} {mfirstFound : Int32} {mpartMany : Int32} {mlength : Int32} {mforms : Nat → Int32} (g42 : h 42 = (8, .inl [.int mk, .int mn, .int mall, .ref 43, .ref 44, .ref 45, .ref 46, .int msum, .ref 47, .int mexchanges, .ref 48, .ref 49, .ref 50, .ref 51, .int mcycleMany, .ref 52, .int mwhich, .ref 53, .ref 54, .ref 55, .ref 56, .ref 57, .ref 58, .int mlatest, .int mfirstFound, .int mpartMany, .ref 59, .int mlength, .ref 60, .ref 61, .ref 62, .ref 63, .ref 64])) (g55 : h 55 = (0, .inr (4, .inl mforms))) (q1 : (¬ s0 = (0 : Int32)) → vp_in x1 4) (q2 : (¬ s0 = (0 : Int32)) → ((0 : Int32) ≤ (mforms x1.toNatClampNeg)) → (mk = (4 : Int32)) → Q (some (.int (-3 : Int32))) h) (q3 : (¬ s0 = (0 : Int32)) → ((0 : Int32) ≤ (mforms x1.toNatClampNeg)) → (¬ mk = (4 : Int32)) → V G mX8_recurrence b 35 [some (.ref 42), some (.int x1)] [.int x1, .ref 42] h Q) (q4 : (¬ s0 = (0 : Int32)) → (¬ (0 : Int32) ≤ (mforms x1.toNatClampNeg)) → V G mX8_recurrence b 21 [some (.ref 42), some (.int x1)] [.int (1 : Int32), .ref 42] h Q) (q5 : (s0 = (0 : Int32)) → Q (some (.int (-2 : Int32))) h) : V G mX8_recurrence b 4 [some (.ref 42), some (.int x1)] [.int s0] h Q := by
  refine V_if_ne (t := 10) dX8_recurrence_4 (by decide) (fun z1 => ?_) (fun z1 => ?_)
  ·
    refine V_aload_n dX8_recurrence_10 rfl rfl ?_
    refine V_get (ci := 8) (j := 19) (C0 := RX8) (T := TX8) (N := 33) dX8_recurrence_11 rfl g42 (by decide) (by decide) kf_X8_47 rfl ?_
    refine V_iload_n dX8_recurrence_14 rfl rfl ?_
    refine V_iald dX8_recurrence_15 g55 (q1 z1) ?_
    refine V_if_ge (t := 25) dX8_recurrence_16 (by decide) (fun z2 => ?_) (fun z2 => ?_)
    ·
      refine V_aload_n dX8_recurrence_25 rfl rfl ?_
      refine V_get (ci := 8) (j := 0) (C0 := RX8) (T := TX8) (N := 33) dX8_recurrence_26 rfl g42 (by decide) (by decide) kf_X8_92 rfl ?_
      refine V_iconst dX8_recurrence_29 ic_4 ?_
      refine V_icmp_eq (t := 41) dX8_recurrence_30 (by decide) (fun z3 => ?_) (fun z3 => ?_)
      ·
        refine V_bipush dX8_recurrence_41 bp_m3 ?_
        exact V_iret dX8_recurrence_43 rfl (q2 z1 z2 z3)
      ·
        refine V_aload_n dX8_recurrence_33 rfl rfl ?_
        refine V_iload_n dX8_recurrence_34 rfl rfl ?_
        exact V_sub (by exact (And.intro rfl (And.intro rfl True.intro))) (q3 z1 z2 z3)
    ·
      refine V_aload_n dX8_recurrence_19 rfl rfl ?_
      refine V_iconst dX8_recurrence_20 ic_1 ?_
      exact V_sub (by exact (And.intro rfl (And.intro rfl True.intro))) (q4 z1 z2)
  ·
    refine V_bipush dX8_recurrence_7 bp_m2 ?_
    exact V_iret dX8_recurrence_9 rfl (q5 z1)
theorem tX8_recurrence_24 {G : gx} {b : bg} {h : ah} {Q : Option Value → ah → Prop} {x1 : Int32} {s0 : Int32} (q1 : Q (some (.int s0)) h) : V G mX8_recurrence b 24 [some (.ref 42), some (.int x1)] [.int s0] h Q := by
  exact V_iret dX8_recurrence_24 rfl (q1)
theorem tX8_recurrence_38 {G : gx} {b : bg} {h : ah} {Q : Option Value → ah → Prop} {x1 : Int32} {s0 : Int32} (q1 : (s0 = (0 : Int32)) → V G mX8_recurrence b 47 [some (.ref 42), some (.int x1)] [.int x1, .ref 42, .ref 42] h Q) (q2 : (¬ s0 = (0 : Int32)) → Q (some (.int (-3 : Int32))) h) : V G mX8_recurrence b 38 [some (.ref 42), some (.int x1)] [.int s0] h Q := by
  refine V_if_eq (t := 44) dX8_recurrence_38 (by decide) (fun z1 => ?_) (fun z1 => ?_)
  ·
    refine V_aload_n dX8_recurrence_44 rfl rfl ?_
    refine V_aload_n dX8_recurrence_45 rfl rfl ?_
    refine V_iload_n dX8_recurrence_46 rfl rfl ?_
    exact V_sub (by exact (And.intro rfl (And.intro rfl True.intro))) (q1 z1)
  ·
    refine V_bipush dX8_recurrence_41 bp_m3 ?_
    exact V_iret dX8_recurrence_43 rfl (q2 z1)
theorem tX8_recurrence_50 {G : gx} {b : bg} {h : ah} {Q : Option Value → ah → Prop} {x1 : Int32} {s0 : Int32} {mk : Int32} {mn : Int32} {mall : Int32} {msum : Int32} {mexchanges : Int32} {mcycleMany : Int32} {mwhich : Int32} {mlatest : Int32} {mfirstFound : Int32} {mpartMany : Int32} {mlength : Int32} (g42 : h 42 = (8, .inl [.int mk, .int mn, .int mall, .ref 43, .ref 44, .ref 45, .ref 46, .int msum, .ref 47, .int mexchanges, .ref 48, .ref 49, .ref 50, .ref 51, .int mcycleMany, .ref 52, .int mwhich, .ref 53, .ref 54, .ref 55, .ref 56, .ref 57, .ref 58, .int mlatest, .int mfirstFound, .int mpartMany, .ref 59, .int mlength, .ref 60, .ref 61, .ref 62, .ref 63, .ref 64])) (q1 : V G mX8_recurrence b 59 [some (.ref 42), some (.int x1)] [.int s0, .int x1, .ref 42] (va_up h 42 (8, .inl [.int mk, .int mn, .int mall, .ref 43, .ref 44, .ref 45, .ref 46, .int msum, .ref 47, .int mexchanges, .ref 48, .ref 49, .ref 50, .ref 51, .int mcycleMany, .ref 52, .int mwhich, .ref 53, .ref 54, .ref 55, .ref 56, .ref 57, .ref 58, .int mlatest, .int mfirstFound, .int mpartMany, .ref 59, .int s0, .ref 60, .ref 61, .ref 62, .ref 63, .ref 64])) Q) : V G mX8_recurrence b 50 [some (.ref 42), some (.int x1)] [.int s0, .ref 42] h Q := by
  refine V_put (ci := 8) (j := 27) (C0 := RX8) (T := TX8) (N := 33) (ty := .int) dX8_recurrence_50 rfl g42 (by decide) (by decide) kf_X8_198 rfl (by decide +kernel) rfl rfl (Nat.le_of_ble_eq_true rfl) ?_
  refine V_aload_n dX8_recurrence_53 rfl rfl ?_
  refine V_iload_n dX8_recurrence_54 rfl rfl ?_
  refine V_aload_n dX8_recurrence_55 rfl rfl ?_
  refine V_get (ci := 8) (j := 27) (C0 := RX8) (T := TX8) (N := 33) dX8_recurrence_56 rfl rfl (by decide) (by decide) kf_X8_198 rfl ?_
  exact V_sub (by exact (And.intro rfl (And.intro rfl True.intro))) (q1)
theorem tX8_recurrence_62 {G : gx} {b : bg} {h : ah} {Q : Option Value → ah → Prop} {x1 : Int32} {mk : Int32} {mn : Int32} {mall : Int32} {msum : Int32} {mexchanges : Int32} {mcycleMany : Int32} {mwhich : Int32} {mlatest : Int32} {mfirstFound : Int32} {mpartMany : Int32} {mlength : Int32} (g42 : h 42 = (8, .inl [.int mk, .int mn, .int mall, .ref 43, .ref 44, .ref 45, .ref 46, .int msum, .ref 47, .int mexchanges, .ref 48, .ref 49, .ref 50, .ref 51, .int mcycleMany, .ref 52, .int mwhich, .ref 53, .ref 54, .ref 55, .ref 56, .ref 57, .ref 58, .int mlatest, .int mfirstFound, .int mpartMany, .ref 59, .int mlength, .ref 60, .ref 61, .ref 62, .ref 63, .ref 64])) (q1 : Q (some (.int mlength)) h) : V G mX8_recurrence b 62 [some (.ref 42), some (.int x1)] [] h Q := by
  refine V_aload_n dX8_recurrence_62 rfl rfl ?_
  refine V_get (ci := 8) (j := 27) (C0 := RX8) (T := TX8) (N := 33) dX8_recurrence_63 rfl g42 (by decide) (by decide) kf_X8_198 rfl ?_
  exact V_iret dX8_recurrence_66 rfl (q1)
theorem cX8_recurrence_1 {G : gx} {d mc ms cc zz d2 mc2 ms2 : Nat} {L : List (Option Value)} {S : List Value} {h : ah} {Q Q2 : Option Value → ah → Prop} {a0 : Value} (hM : Ct G mX8_isTape d2 mc2 ms2 [a0] h Q2) (hdd : d2 < d ∧ d ≤ 9) (hrm : (S.map fun v => v.category).sum ≤ 8) (hf : cc + mc2 ≤ mc ∧ zz + ms2 ≤ ms) (kk : ∀ r h2, Q2 r h2 → V G mX8_recurrence (d, mc, ms, cc + mc2, zz + ms2) 4 L (r.toList ++ S) h2 Q) : V G mX8_recurrence (d, mc, ms, cc, zz) 1 L (a0 :: S) h Q := V_callS hM dX8_recurrence_1 ⟨km_X8_168, kt_X8_isTape⟩ cw_X8_isTape hdd rfl rfl hrm hf kk
theorem cX8_recurrence_21 {G : gx} {d mc ms cc zz d2 mc2 ms2 : Nat} {L : List (Option Value)} {S : List Value} {h : ah} {Q Q2 : Option Value → ah → Prop} {k : Nat} {fs : List Value} {a0 : Value} (hM : Ct G mX8_met d2 mc2 ms2 (.ref (k + 2) :: [a0]) h Q2) (hc : h (k + 2) = (8, .inl fs)) (hdd : d2 < d ∧ d ≤ 9) (hrm : (S.map fun v => v.category).sum ≤ 8) (hf : cc + mc2 ≤ mc ∧ zz + ms2 ≤ ms) (kk : ∀ r h2, Q2 r h2 → V G mX8_recurrence (d, mc, ms, cc + mc2, zz + ms2) 24 L (r.toList ++ S) h2 Q) : V G mX8_recurrence (d, mc, ms, cc, zz) 21 L (a0 :: .ref (k + 2) :: S) h Q := V_callV (ci := 8) (T := TX8) (N := 33) hM dX8_recurrence_21 ⟨km_X8_171, ki_X8_met, ks_X8_met⟩ cw_X8_met rfl hc (by decide) hdd rfl rfl hrm hf kk
theorem cX8_recurrence_35 {G : gx} {d mc ms cc zz d2 mc2 ms2 : Nat} {L : List (Option Value)} {S : List Value} {h : ah} {Q Q2 : Option Value → ah → Prop} {k : Nat} {fs : List Value} {a0 : Value} (hM : Ct G mX8_noLetters d2 mc2 ms2 (.ref (k + 2) :: [a0]) h Q2) (hc : h (k + 2) = (8, .inl fs)) (hdd : d2 < d ∧ d ≤ 9) (hrm : (S.map fun v => v.category).sum ≤ 8) (hf : cc + mc2 ≤ mc ∧ zz + ms2 ≤ ms) (kk : ∀ r h2, Q2 r h2 → V G mX8_recurrence (d, mc, ms, cc + mc2, zz + ms2) 38 L (r.toList ++ S) h2 Q) : V G mX8_recurrence (d, mc, ms, cc, zz) 35 L (a0 :: .ref (k + 2) :: S) h Q := V_callV (ci := 8) (T := TX8) (N := 33) hM dX8_recurrence_35 ⟨km_X8_186, ki_X8_noLetters, ks_X8_noLetters⟩ cw_X8_noLetters rfl hc (by decide) hdd rfl rfl hrm hf kk
theorem cX8_recurrence_47 {G : gx} {d mc ms cc zz d2 mc2 ms2 : Nat} {L : List (Option Value)} {S : List Value} {h : ah} {Q Q2 : Option Value → ah → Prop} {k : Nat} {fs : List Value} {a0 : Value} (hM : Ct G mX8_leastLength d2 mc2 ms2 (.ref (k + 2) :: [a0]) h Q2) (hc : h (k + 2) = (8, .inl fs)) (hdd : d2 < d ∧ d ≤ 9) (hrm : (S.map fun v => v.category).sum ≤ 8) (hf : cc + mc2 ≤ mc ∧ zz + ms2 ≤ ms) (kk : ∀ r h2, Q2 r h2 → V G mX8_recurrence (d, mc, ms, cc + mc2, zz + ms2) 50 L (r.toList ++ S) h2 Q) : V G mX8_recurrence (d, mc, ms, cc, zz) 47 L (a0 :: .ref (k + 2) :: S) h Q := V_callV (ci := 8) (T := TX8) (N := 33) hM dX8_recurrence_47 ⟨km_X8_195, ki_X8_leastLength, ks_X8_leastLength⟩ cw_X8_leastLength rfl hc (by decide) hdd rfl rfl hrm hf kk
theorem cX8_recurrence_59 {G : gx} {d mc ms cc zz d2 mc2 ms2 : Nat} {L : List (Option Value)} {S : List Value} {h : ah} {Q Q2 : Option Value → ah → Prop} {k : Nat} {fs : List Value} {a0 a1 : Value} (hM : Ct G mX8_solve d2 mc2 ms2 (.ref (k + 2) :: [a0, a1]) h Q2) (hc : h (k + 2) = (8, .inl fs)) (hdd : d2 < d ∧ d ≤ 9) (hrm : (S.map fun v => v.category).sum ≤ 8) (hf : cc + mc2 ≤ mc ∧ zz + ms2 ≤ ms) (kk : ∀ r h2, Q2 r h2 → V G mX8_recurrence (d, mc, ms, cc + mc2, zz + ms2) 62 L (r.toList ++ S) h2 Q) : V G mX8_recurrence (d, mc, ms, cc, zz) 59 L (a1 :: a0 :: .ref (k + 2) :: S) h Q := V_callV (ci := 8) (T := TX8) (N := 33) hM dX8_recurrence_59 ⟨km_X8_201, ki_X8_solve, ks_X8_solve⟩ cw_X8_solve rfl hc (by decide) hdd rfl rfl hrm hf kk
theorem tX8_coefficient_0 {G : gx} {b : bg} {h : ah} {Q : Option Value → ah → Prop} {x1 : Int32} {mk : Int32} {mn : Int32} {mall : Int32} {msum : Int32} {mexchanges : Int32} {mcycleMany : Int32} {mwhich : Int32} {mlatest : Int32} {mfirstFound : Int32} {mpartMany : Int32} {mlength : Int32} (g42 : h 42 = (8, .inl [.int mk, .int mn, .int mall, .ref 43, .ref 44, .ref 45, .ref 46, .int msum, .ref 47, .int mexchanges, .ref 48, .ref 49, .ref 50, .ref 51, .int mcycleMany, .ref 52, .int mwhich, .ref 53, .ref 54, .ref 55, .ref 56, .ref 57, .ref 58, .int mlatest, .int mfirstFound, .int mpartMany, .ref 59, .int mlength, .ref 60, .ref 61, .ref 62, .ref 63, .ref 64])) (q1 : V G mX8_coefficient b 8 [some (.ref 42), some (.int x1)] [.long (mlength.toInt64), .long (1 : Int64), .long (x1.toInt64)] h Q) : V G mX8_coefficient b 0 [some (.ref 42), some (.int x1)] [] h Q := by
  refine V_iload_n dX8_coefficient_0 rfl rfl ?_
  refine V_i2l dX8_coefficient_1 ?_
  refine V_lconst dX8_coefficient_2 lc_1 ?_
  refine V_aload_n dX8_coefficient_3 rfl rfl ?_
  refine V_get (ci := 8) (j := 27) (C0 := RX8) (T := TX8) (N := 33) dX8_coefficient_4 rfl g42 (by decide) (by decide) kf_X8_198 rfl ?_
  refine V_i2l dX8_coefficient_7 ?_
  exact V_sub (by exact (And.intro rfl (And.intro rfl True.intro))) (q1)
theorem tX8_coefficient_11 {G : gx} {b : bg} {h : ah} {Q : Option Value → ah → Prop} {x1 : Int32} {s0 : Int32} {mk : Int32} {mn : Int32} {mall : Int32} {msum : Int32} {mexchanges : Int32} {mcycleMany : Int32} {mwhich : Int32} {mlatest : Int32} {mfirstFound : Int32} {mpartMany : Int32} {mlength : Int32} {mtold : Nat → Int32} (g42 : h 42 = (8, .inl [.int mk, .int mn, .int mall, .ref 43, .ref 44, .ref 45, .ref 46, .int msum, .ref 47, .int mexchanges, .ref 48, .ref 49, .ref 50, .ref 51, .int mcycleMany, .ref 52, .int mwhich, .ref 53, .ref 54, .ref 55, .ref 56, .ref 57, .ref 58, .int mlatest, .int mfirstFound, .int mpartMany, .ref 59, .int mlength, .ref 60, .ref 61, .ref 62, .ref 63, .ref 64])) (g60 : h 60 = (0, .inr (201, .inl mtold))) (q1 : (s0 = (0 : Int32)) → Q (some (.int (-2 : Int32))) h) (q2 : (¬ s0 = (0 : Int32)) → vp_in x1 201) (q3 : (¬ s0 = (0 : Int32)) → Q (some (.int (mtold x1.toNatClampNeg))) h) : V G mX8_coefficient b 11 [some (.ref 42), some (.int x1)] [.int s0] h Q := by
  refine V_if_eq (t := 23) dX8_coefficient_11 (by decide) (fun z1 => ?_) (fun z1 => ?_)
  ·
    refine V_bipush dX8_coefficient_23 bp_m2 ?_
    exact V_iret dX8_coefficient_25 rfl (q1 z1)
  ·
    refine V_aload_n dX8_coefficient_14 rfl rfl ?_
    refine V_get (ci := 8) (j := 28) (C0 := RX8) (T := TX8) (N := 33) dX8_coefficient_15 rfl g42 (by decide) (by decide) kf_X8_62 rfl ?_
    refine V_iload_n dX8_coefficient_18 rfl rfl ?_
    refine V_iald dX8_coefficient_19 g60 (q2 z1) ?_
    refine V_goto (t := 25) dX8_coefficient_20 (by decide) ?_
    exact V_iret dX8_coefficient_25 rfl (q3 z1)
theorem cX8_coefficient_8 {G : gx} {d mc ms cc zz d2 mc2 ms2 : Nat} {L : List (Option Value)} {S : List Value} {h : ah} {Q Q2 : Option Value → ah → Prop} {a0 a1 a2 : Value} (hM : Ct G mX8_in d2 mc2 ms2 [a0, a1, a2] h Q2) (hdd : d2 < d ∧ d ≤ 9) (hrm : (S.map fun v => v.category).sum ≤ 8) (hf : cc + mc2 ≤ mc ∧ zz + ms2 ≤ ms) (kk : ∀ r h2, Q2 r h2 → V G mX8_coefficient (d, mc, ms, cc + mc2, zz + ms2) 11 L (r.toList ++ S) h2 Q) : V G mX8_coefficient (d, mc, ms, cc, zz) 8 L (a2 :: a1 :: a0 :: S) h Q := V_callS hM dX8_coefficient_8 ⟨km_X8_86, kt_X8_in⟩ cw_X8_in hdd rfl rfl hrm hf kk
theorem tX8_count_0 {G : gx} {b : bg} {h : ah} {Q : Option Value → ah → Prop} {x1 : Int32} (q1 : V G mX8_count b 1 [some (.ref 42), some (.int x1)] [.int x1] h Q) : V G mX8_count b 0 [some (.ref 42), some (.int x1)] [] h Q := by
  refine V_iload_n dX8_count_0 rfl rfl ?_
  exact V_sub (by exact (And.intro rfl (And.intro rfl True.intro))) (q1)
theorem tX8_count_40 {G : gx} {b : bg} {h : ah} {Q : Option Value → ah → Prop} {x1 : Int32} {mk : Int32} {mn : Int32} {mall : Int32} {msum : Int32} {mexchanges : Int32} {mcycleMany : Int32} {mwhich : Int32} {mlatest : Int32} {mfirstFound : Int32} {mpartMany : Int32} {mlength : Int32} (g42 : h 42 = (8, .inl [.int mk, .int mn, .int mall, .ref 43, .ref 44, .ref 45, .ref 46, .int msum, .ref 47, .int mexchanges, .ref 48, .ref 49, .ref 50, .ref 51, .int mcycleMany, .ref 52, .int mwhich, .ref 53, .ref 54, .ref 55, .ref 56, .ref 57, .ref 58, .int mlatest, .int mfirstFound, .int mpartMany, .ref 59, .int mlength, .ref 60, .ref 61, .ref 62, .ref 63, .ref 64])) (q1 : Q (some (.int mk)) h) : V G mX8_count b 40 [some (.ref 42), some (.int x1)] [] h Q := by
  refine V_aload_n dX8_count_40 rfl rfl ?_
  refine V_get (ci := 8) (j := 0) (C0 := RX8) (T := TX8) (N := 33) dX8_count_41 rfl g42 (by decide) (by decide) kf_X8_92 rfl ?_
  exact V_iret dX8_count_44 rfl (q1)
theorem tX8_count_45 {G : gx} {b : bg} {h : ah} {Q : Option Value → ah → Prop} {x1 : Int32} {mk : Int32} {mn : Int32} {mall : Int32} {msum : Int32} {mexchanges : Int32} {mcycleMany : Int32} {mwhich : Int32} {mlatest : Int32} {mfirstFound : Int32} {mpartMany : Int32} {mlength : Int32} (g42 : h 42 = (8, .inl [.int mk, .int mn, .int mall, .ref 43, .ref 44, .ref 45, .ref 46, .int msum, .ref 47, .int mexchanges, .ref 48, .ref 49, .ref 50, .ref 51, .int mcycleMany, .ref 52, .int mwhich, .ref 53, .ref 54, .ref 55, .ref 56, .ref 57, .ref 58, .int mlatest, .int mfirstFound, .int mpartMany, .ref 59, .int mlength, .ref 60, .ref 61, .ref 62, .ref 63, .ref 64])) (q1 : Q (some (.int mn)) h) : V G mX8_count b 45 [some (.ref 42), some (.int x1)] [] h Q := by
  refine V_aload_n dX8_count_45 rfl rfl ?_
  refine V_get (ci := 8) (j := 1) (C0 := RX8) (T := TX8) (N := 33) dX8_count_46 rfl g42 (by decide) (by decide) kf_X8_96 rfl ?_
  exact V_iret dX8_count_49 rfl (q1)
theorem tX8_count_50 {G : gx} {b : bg} {h : ah} {Q : Option Value → ah → Prop} {x1 : Int32} {mk : Int32} {mn : Int32} {mall : Int32} {msum : Int32} {mexchanges : Int32} {mcycleMany : Int32} {mwhich : Int32} {mlatest : Int32} {mfirstFound : Int32} {mpartMany : Int32} {mlength : Int32} (g42 : h 42 = (8, .inl [.int mk, .int mn, .int mall, .ref 43, .ref 44, .ref 45, .ref 46, .int msum, .ref 47, .int mexchanges, .ref 48, .ref 49, .ref 50, .ref 51, .int mcycleMany, .ref 52, .int mwhich, .ref 53, .ref 54, .ref 55, .ref 56, .ref 57, .ref 58, .int mlatest, .int mfirstFound, .int mpartMany, .ref 59, .int mlength, .ref 60, .ref 61, .ref 62, .ref 63, .ref 64])) (q1 : Q (some (.int mall)) h) : V G mX8_count b 50 [some (.ref 42), some (.int x1)] [] h Q := by
  refine V_aload_n dX8_count_50 rfl rfl ?_
  refine V_get (ci := 8) (j := 2) (C0 := RX8) (T := TX8) (N := 33) dX8_count_51 rfl g42 (by decide) (by decide) kf_X8_99 rfl ?_
  exact V_iret dX8_count_54 rfl (q1)
theorem tX8_count_55 {G : gx} {b : bg} {h : ah} {Q : Option Value → ah → Prop} {x1 : Int32} {mk : Int32} {mn : Int32} {mall : Int32} {msum : Int32} {mexchanges : Int32} {mcycleMany : Int32} {mwhich : Int32} {mlatest : Int32} {mfirstFound : Int32} {mpartMany : Int32} {mlength : Int32} (g42 : h 42 = (8, .inl [.int mk, .int mn, .int mall, .ref 43, .ref 44, .ref 45, .ref 46, .int msum, .ref 47, .int mexchanges, .ref 48, .ref 49, .ref 50, .ref 51, .int mcycleMany, .ref 52, .int mwhich, .ref 53, .ref 54, .ref 55, .ref 56, .ref 57, .ref 58, .int mlatest, .int mfirstFound, .int mpartMany, .ref 59, .int mlength, .ref 60, .ref 61, .ref 62, .ref 63, .ref 64])) (q1 : Q (some (.int mexchanges)) h) : V G mX8_count b 55 [some (.ref 42), some (.int x1)] [] h Q := by
  refine V_aload_n dX8_count_55 rfl rfl ?_
  refine V_get (ci := 8) (j := 9) (C0 := RX8) (T := TX8) (N := 33) dX8_count_56 rfl g42 (by decide) (by decide) kf_X8_133 rfl ?_
  exact V_iret dX8_count_59 rfl (q1)
theorem tX8_count_60 {G : gx} {b : bg} {h : ah} {Q : Option Value → ah → Prop} {x1 : Int32} {mk : Int32} {mn : Int32} {mall : Int32} {msum : Int32} {mexchanges : Int32} {mcycleMany : Int32} {mwhich : Int32} {mlatest : Int32} {mfirstFound : Int32} {mpartMany : Int32} {mlength : Int32} (g42 : h 42 = (8, .inl [.int mk, .int mn, .int mall, .ref 43, .ref 44, .ref 45, .ref 46, .int msum, .ref 47, .int mexchanges, .ref 48, .ref 49, .ref 50, .ref 51, .int mcycleMany, .ref 52, .int mwhich, .ref 53, .ref 54, .ref 55, .ref 56, .ref 57, .ref 58, .int mlatest, .int mfirstFound, .int mpartMany, .ref 59, .int mlength, .ref 60, .ref 61, .ref 62, .ref 63, .ref 64])) (q1 : Q (some (.int mwhich)) h) : V G mX8_count b 60 [some (.ref 42), some (.int x1)] [] h Q := by
  refine V_aload_n dX8_count_60 rfl rfl ?_
  refine V_get (ci := 8) (j := 16) (C0 := RX8) (T := TX8) (N := 33) dX8_count_61 rfl g42 (by decide) (by decide) kf_X8_112 rfl ?_
  exact V_iret dX8_count_64 rfl (q1)
theorem tX8_count_65 {G : gx} {b : bg} {h : ah} {Q : Option Value → ah → Prop} {x1 : Int32} {mk : Int32} {mn : Int32} {mall : Int32} {msum : Int32} {mexchanges : Int32} {mcycleMany : Int32} {mwhich : Int32} {mlatest : Int32} {mfirstFound : Int32} {mpartMany : Int32} {mlength : Int32} (g42 : h 42 = (8, .inl [.int mk, .int mn, .int mall, .ref 43, .ref 44, .ref 45, .ref 46, .int msum, .ref 47, .int mexchanges, .ref 48, .ref 49, .ref 50, .ref 51, .int mcycleMany, .ref 52, .int mwhich, .ref 53, .ref 54, .ref 55, .ref 56, .ref 57, .ref 58, .int mlatest, .int mfirstFound, .int mpartMany, .ref 59, .int mlength, .ref 60, .ref 61, .ref 62, .ref 63, .ref 64])) (q1 : Q (some (.int mlatest)) h) : V G mX8_count b 65 [some (.ref 42), some (.int x1)] [] h Q := by
  refine V_aload_n dX8_count_65 rfl rfl ?_
  refine V_get (ci := 8) (j := 23) (C0 := RX8) (T := TX8) (N := 33) dX8_count_66 rfl g42 (by decide) (by decide) kf_X8_163 rfl ?_
  exact V_iret dX8_count_69 rfl (q1)
theorem tX8_count_70 {G : gx} {b : bg} {h : ah} {Q : Option Value → ah → Prop} {x1 : Int32} (q1 : Q (some (.int (-2 : Int32))) h) : V G mX8_count b 70 [some (.ref 42), some (.int x1)] [] h Q := by
  refine V_bipush dX8_count_70 bp_m2 ?_
  exact V_iret dX8_count_72 rfl (q1)
theorem tX8_digest_0 {G : gx} {b : bg} {h : ah} {Q : Option Value → ah → Prop} (q1 : V G mX8_digest b 6 [some (.ref 42), some (.long (17 : Int64)), none, some (.int (0 : Int32))] [] h Q) : V G mX8_digest b 0 [some (.ref 42)] [] h Q := by
  refine V_ldc2 dX8_digest_0 kk_X8_204 ?_
  refine V_lstore_n dX8_digest_3 rfl (Nat.le_of_ble_eq_true rfl) ?_
  refine V_iconst dX8_digest_4 ic_0 ?_
  refine V_istore_n dX8_digest_5 rfl (Nat.le_of_ble_eq_true rfl) ?_
  exact V_sub (by exact (And.intro rfl (And.intro rfl (And.intro rfl True.intro)))) (q1)
theorem tX8_digest_6 {G : gx} {b : bg} {h : ah} {Q : Option Value → ah → Prop} {y1 : Int64} {x3 : Int32} (q1 : ((5 : Int32) ≤ x3) → V G mX8_digest b 32 [some (.ref 42), some (.long y1), none, some (.int (0 : Int32))] [] h Q) (q2 : (¬ (5 : Int32) ≤ x3) → V G mX8_digest b 18 [some (.ref 42), some (.long y1), none, some (.int x3)] [.int x3, .ref 42, .long ((31 : Int64) * y1)] h Q) : V G mX8_digest b 6 [some (.ref 42), some (.long y1), none, some (.int x3)] [] h Q := by
  refine V_iload_n dX8_digest_6 rfl rfl ?_
  refine V_iconst dX8_digest_7 ic_5 ?_
  refine V_icmp_ge (t := 30) dX8_digest_8 (by decide) (fun z1 => ?_) (fun z1 => ?_)
  ·
    refine V_iconst dX8_digest_30 ic_0 ?_
    refine V_istore_n dX8_digest_31 rfl (Nat.le_of_ble_eq_true rfl) ?_
    exact V_sub (by exact (And.intro rfl (And.intro rfl (And.intro rfl True.intro)))) (q1 z1)
  ·
    refine V_ldc2 dX8_digest_11 kk_X8_206 ?_
    refine V_lload_n dX8_digest_14 rfl rfl ?_
    refine V_lmul dX8_digest_15 ?_
    refine V_aload_n dX8_digest_16 rfl rfl ?_
    refine V_iload_n dX8_digest_17 rfl rfl ?_
    exact V_sub (by exact (And.intro rfl (And.intro rfl (And.intro rfl True.intro)))) (q2 z1)
theorem tX8_digest_32 {G : gx} {b : bg} {h : ah} {Q : Option Value → ah → Prop} {y1 : Int64} {x3 : Int32} {mk : Int32} {mn : Int32} {mall : Int32} {msum : Int32} {mexchanges : Int32} {mcycleMany : Int32} {mwhich : Int32} {mlatest : Int32} {mfirstFound : Int32} {mpartMany : Int32} {mlength : Int32} {mto : Nat → Int32} (g42 : h 42 = (8, .inl [.int mk, .int mn, .int mall, .ref 43, .ref 44, .ref 45, .ref 46, .int msum, .ref 47, .int mexchanges, .ref 48, .ref 49, .ref 50, .ref 51, .int mcycleMany, .ref 52, .int mwhich, .ref 53, .ref 54, .ref 55, .ref 56, .ref 57, .ref 58, .int mlatest, .int mfirstFound, .int mpartMany, .ref 59, .int mlength, .ref 60, .ref 61, .ref 62, .ref 63, .ref 64])) (g47 : h 47 = (0, .inr (20000, .inl mto))) (q1 : (mall ≤ x3) → V G mX8_digest b 62 [some (.ref 42), some (.long y1), none, some (.int (0 : Int32))] [] h Q) (q2 : (¬ mall ≤ x3) → vp_in x3 20000) (q3 : (¬ mall ≤ x3) → V G mX8_digest b 32 [some (.ref 42), some (.long (((31 : Int64) * y1) + (mto x3.toNatClampNeg).toInt64)), none, some (.int (x3 + (1 : Int32)))] [] h Q) : V G mX8_digest b 32 [some (.ref 42), some (.long y1), none, some (.int x3)] [] h Q := by
  refine V_iload_n dX8_digest_32 rfl rfl ?_
  refine V_aload_n dX8_digest_33 rfl rfl ?_
  refine V_get (ci := 8) (j := 2) (C0 := RX8) (T := TX8) (N := 33) dX8_digest_34 rfl g42 (by decide) (by decide) kf_X8_99 rfl ?_
  refine V_icmp_ge (t := 60) dX8_digest_37 (by decide) (fun z1 => ?_) (fun z1 => ?_)
  ·
    refine V_iconst dX8_digest_60 ic_0 ?_
    refine V_istore_n dX8_digest_61 rfl (Nat.le_of_ble_eq_true rfl) ?_
    exact V_sub (by exact (And.intro rfl (And.intro rfl (And.intro rfl True.intro)))) (q1 z1)
  ·
    refine V_ldc2 dX8_digest_40 kk_X8_206 ?_
    refine V_lload_n dX8_digest_43 rfl rfl ?_
    refine V_lmul dX8_digest_44 ?_
    refine V_aload_n dX8_digest_45 rfl rfl ?_
    refine V_get (ci := 8) (j := 8) (C0 := RX8) (T := TX8) (N := 33) dX8_digest_46 rfl g42 (by decide) (by decide) kf_X8_22 rfl ?_
    refine V_iload_n dX8_digest_49 rfl rfl ?_
    refine V_iald dX8_digest_50 g47 (q2 z1) ?_
    refine V_i2l dX8_digest_51 ?_
    refine V_ladd dX8_digest_52 ?_
    refine V_lstore_n dX8_digest_53 rfl (Nat.le_of_ble_eq_true rfl) ?_
    refine V_inc dX8_digest_54 ic_1 rfl (Nat.le_of_ble_eq_true rfl) ?_
    refine V_goto (t := 32) dX8_digest_57 (by decide) ?_
    exact V_sub (by exact (And.intro rfl (And.intro rfl (And.intro rfl True.intro)))) (q3 z1)
theorem tX8_digest_62 {G : gx} {b : bg} {h : ah} {Q : Option Value → ah → Prop} {y1 : Int64} {x3 : Int32} {mk : Int32} {mn : Int32} {mall : Int32} {msum : Int32} {mexchanges : Int32} {mcycleMany : Int32} {mwhich : Int32} {mlatest : Int32} {mfirstFound : Int32} {mpartMany : Int32} {mlength : Int32} {mround : Nat → Int32} (g42 : h 42 = (8, .inl [.int mk, .int mn, .int mall, .ref 43, .ref 44, .ref 45, .ref 46, .int msum, .ref 47, .int mexchanges, .ref 48, .ref 49, .ref 50, .ref 51, .int mcycleMany, .ref 52, .int mwhich, .ref 53, .ref 54, .ref 55, .ref 56, .ref 57, .ref 58, .int mlatest, .int mfirstFound, .int mpartMany, .ref 59, .int mlength, .ref 60, .ref 61, .ref 62, .ref 63, .ref 64])) (g53 : h 53 = (0, .inr (20000, .inl mround))) (q1 : (mall ≤ x3) → Q (some (.long y1)) h) (q2 : (¬ mall ≤ x3) → (mwhich = (-1 : Int32)) → Q (some (.long y1)) h) (q3 : (¬ mall ≤ x3) → (¬ mwhich = (-1 : Int32)) → vp_in x3 20000) (q4 : (¬ mall ≤ x3) → (¬ mwhich = (-1 : Int32)) → V G mX8_digest b 62 [some (.ref 42), some (.long (((31 : Int64) * y1) + (mround x3.toNatClampNeg).toInt64)), none, some (.int (x3 + (1 : Int32)))] [] h Q) : V G mX8_digest b 62 [some (.ref 42), some (.long y1), none, some (.int x3)] [] h Q := by
  refine V_iload_n dX8_digest_62 rfl rfl ?_
  refine V_aload_n dX8_digest_63 rfl rfl ?_
  refine V_get (ci := 8) (j := 2) (C0 := RX8) (T := TX8) (N := 33) dX8_digest_64 rfl g42 (by decide) (by decide) kf_X8_99 rfl ?_
  refine V_icmp_ge (t := 98) dX8_digest_67 (by decide) (fun z1 => ?_) (fun z1 => ?_)
  ·
    refine V_lload_n dX8_digest_98 rfl rfl ?_
    exact V_lret dX8_digest_99 rfl (q1 z1)
  ·
    refine V_aload_n dX8_digest_70 rfl rfl ?_
    refine V_get (ci := 8) (j := 16) (C0 := RX8) (T := TX8) (N := 33) dX8_digest_71 rfl g42 (by decide) (by decide) kf_X8_112 rfl ?_
    refine V_iconst dX8_digest_74 ic_m1 ?_
    refine V_icmp_eq (t := 98) dX8_digest_75 (by decide) (fun z2 => ?_) (fun z2 => ?_)
    ·
      refine V_lload_n dX8_digest_98 rfl rfl ?_
      exact V_lret dX8_digest_99 rfl (q2 z1 z2)
    ·
      refine V_ldc2 dX8_digest_78 kk_X8_206 ?_
      refine V_lload_n dX8_digest_81 rfl rfl ?_
      refine V_lmul dX8_digest_82 ?_
      refine V_aload_n dX8_digest_83 rfl rfl ?_
      refine V_get (ci := 8) (j := 17) (C0 := RX8) (T := TX8) (N := 33) dX8_digest_84 rfl g42 (by decide) (by decide) kf_X8_41 rfl ?_
      refine V_iload_n dX8_digest_87 rfl rfl ?_
      refine V_iald dX8_digest_88 g53 (q3 z1 z2) ?_
      refine V_i2l dX8_digest_89 ?_
      refine V_ladd dX8_digest_90 ?_
      refine V_lstore_n dX8_digest_91 rfl (Nat.le_of_ble_eq_true rfl) ?_
      refine V_inc dX8_digest_92 ic_1 rfl (Nat.le_of_ble_eq_true rfl) ?_
      refine V_goto (t := 62) dX8_digest_95 (by decide) ?_
      exact V_sub (by exact (And.intro rfl (And.intro rfl (And.intro rfl True.intro)))) (q4 z1 z2)
theorem tX8_digest_21 {G : gx} {b : bg} {h : ah} {Q : Option Value → ah → Prop} {y1 : Int64} {x3 : Int32} {s0 : Int32} {s1 : Int64} (q1 : V G mX8_digest b 6 [some (.ref 42), some (.long (s1 + s0.toInt64)), none, some (.int (x3 + (1 : Int32)))] [] h Q) : V G mX8_digest b 21 [some (.ref 42), some (.long y1), none, some (.int x3)] [.int s0, .long s1] h Q := by
  refine V_i2l dX8_digest_21 ?_
  refine V_ladd dX8_digest_22 ?_
  refine V_lstore_n dX8_digest_23 rfl (Nat.le_of_ble_eq_true rfl) ?_
  refine V_inc dX8_digest_24 ic_1 rfl (Nat.le_of_ble_eq_true rfl) ?_
  refine V_goto (t := 6) dX8_digest_27 (by decide) ?_
  exact V_sub (by exact (And.intro rfl (And.intro rfl (And.intro rfl True.intro)))) (q1)
theorem cX8_digest_18 {G : gx} {d mc ms cc zz d2 mc2 ms2 : Nat} {L : List (Option Value)} {S : List Value} {h : ah} {Q Q2 : Option Value → ah → Prop} {k : Nat} {fs : List Value} {a0 : Value} (hM : Ct G mX8_count d2 mc2 ms2 (.ref (k + 2) :: [a0]) h Q2) (hc : h (k + 2) = (8, .inl fs)) (hdd : d2 < d ∧ d ≤ 9) (hrm : (S.map fun v => v.category).sum ≤ 8) (hf : cc + mc2 ≤ mc ∧ zz + ms2 ≤ ms) (kk : ∀ r h2, Q2 r h2 → V G mX8_digest (d, mc, ms, cc + mc2, zz + ms2) 21 L (r.toList ++ S) h2 Q) : V G mX8_digest (d, mc, ms, cc, zz) 18 L (a0 :: .ref (k + 2) :: S) h Q := V_callV (ci := 8) (T := TX8) (N := 33) hM dX8_digest_18 ⟨km_X8_208, ki_X8_count, ks_X8_count⟩ cw_X8_count rfl hc (by decide) hdd rfl rfl hrm hf kk
