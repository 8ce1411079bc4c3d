/-! trees of X1 -/
theorem tX1_coefficientAt_0 {G : gx} {b : bg} {h : ah} {Q : Option Value → ah → Prop} {x1 : Int32} {blength : Int32} {bmodulus : Int32} {bnow : Nat → Int32} (g38 : h 38 = (1, .inl [.ref 39, .ref 40, .ref 41, .int blength, .int bmodulus])) (g39 : h 39 = (0, .inr (201, .inl bnow))) (q1 : vp_in x1 201) (q2 : ¬ bmodulus = 0) (q3 : Q (some (.int ((bmodulus - (bnow x1.toNatClampNeg)) - (bmodulus - (bnow x1.toNatClampNeg)) / bmodulus * bmodulus))) h) : V G mX1_coefficientAt b 0 [some (.ref 38), some (.int x1)] [] h Q := by
  refine V_aload_n dX1_coefficientAt_0 rfl rfl ?_
  refine V_get (ci := 1) (j := 4) (C0 := RX1) (T := TX1) (N := 5) dX1_coefficientAt_1 rfl g38 (by decide) (by decide) kf_X1_21 rfl ?_
  refine V_aload_n dX1_coefficientAt_4 rfl rfl ?_
  refine V_get (ci := 1) (j := 0) (C0 := RX1) (T := TX1) (N := 5) dX1_coefficientAt_5 rfl g38 (by decide) (by decide) kf_X1_9 rfl ?_
  refine V_iload_n dX1_coefficientAt_8 rfl rfl ?_
  refine V_iald dX1_coefficientAt_9 g39 (q1) ?_
  refine V_isub dX1_coefficientAt_10 ?_
  refine V_aload_n dX1_coefficientAt_11 rfl rfl ?_
  refine V_get (ci := 1) (j := 4) (C0 := RX1) (T := TX1) (N := 5) dX1_coefficientAt_12 rfl g38 (by decide) (by decide) kf_X1_21 rfl ?_
  refine V_irem dX1_coefficientAt_15 (q2) ?_
  exact V_iret dX1_coefficientAt_16 rfl (q3)
theorem tX1_learn_0 {G : gx} {b : bg} {h : ah} {Q : Option Value → ah → Prop} {p1 : Nat} {x2 : Int32} {x3 : Int32} {blength : Int32} {bmodulus : Int32} (g38 : h 38 = (1, .inl [.ref 39, .ref 40, .ref 41, .int blength, .int bmodulus])) (q1 : V G mX1_learn b 15 [some (.ref 38), some (.ref (p1 + 2)), some (.int x2), some (.int x3)] [.int (0 : Int32), .ref 39] (va_up (va_up h 38 (1, .inl [.ref 39, .ref 40, .ref 41, .int blength, .int x3])) 38 (1, .inl [.ref 39, .ref 40, .ref 41, .int (0 : Int32), .int x3])) Q) : V G mX1_learn b 0 [some (.ref 38), some (.ref (p1 + 2)), some (.int x2), some (.int x3)] [] h Q := by
  refine V_aload_n dX1_learn_0 rfl rfl ?_
  refine V_iload_n dX1_learn_1 rfl rfl ?_
  refine V_put (ci := 1) (j := 4) (C0 := RX1) (T := TX1) (N := 5) (ty := .int) dX1_learn_2 rfl g38 (by decide) (by decide) kf_X1_21 rfl (by decide +kernel) rfl rfl (Nat.le_of_ble_eq_true rfl) ?_
  refine V_aload_n dX1_learn_5 rfl rfl ?_
  refine V_iconst dX1_learn_6 ic_0 ?_
  refine V_put (ci := 1) (j := 3) (C0 := RX1) (T := TX1) (N := 5) (ty := .int) dX1_learn_7 rfl rfl (by decide) (by decide) kf_X1_25 rfl (by decide +kernel) rfl rfl (Nat.le_of_ble_eq_true rfl) ?_
  refine V_aload_n dX1_learn_10 rfl rfl ?_
  refine V_get (ci := 1) (j := 0) (C0 := RX1) (T := TX1) (N := 5) dX1_learn_11 rfl rfl (by decide) (by decide) kf_X1_9 rfl ?_
  refine V_iconst dX1_learn_14 ic_0 ?_
  exact V_sub (by exact (And.intro rfl (And.intro rfl (And.intro rfl (And.intro rfl True.intro))))) (q1)
theorem tX1_learn_49 {G : gx} {b : bg} {h : ah} {Q : Option Value → ah → Prop} {p1 : Nat} {x2 : Int32} {x3 : Int32} {x4 : Int32} {x5 : Int32} {x6 : Int32} {blength : Int32} {bmodulus : Int32} (g38 : h 38 = (1, .inl [.ref 39, .ref 40, .ref 41, .int blength, .int bmodulus])) (q1 : (x2 ≤ x6) → V G mX1_learn b 151 [some (.ref 38), some (.ref (p1 + 2)), some (.int x2), some (.int x3), some (.int x4), some (.int x5), some (.int x6)] [.int (((2 : Int32) * blength) - x2), .int x5, .ref 38] h Q) (q2 : (¬ x2 ≤ x6) → V G mX1_learn b 59 [some (.ref 38), some (.ref (p1 + 2)), some (.int x2), some (.int x3), some (.int x4), some (.int x5), some (.int x6)] [.int x6, .ref (p1 + 2), .ref 38] h Q) : V G mX1_learn b 49 [some (.ref 38), some (.ref (p1 + 2)), some (.int x2), some (.int x3), some (.int x4), some (.int x5), some (.int x6)] [] h Q := by
  refine V_iload dX1_learn_49 rfl ?_
  refine V_iload_n dX1_learn_51 rfl rfl ?_
  refine V_icmp_ge (t := 140) dX1_learn_52 (by decide) (fun z1 => ?_) (fun z1 => ?_)
  ·
    refine V_aload_n dX1_learn_140 rfl rfl ?_
    refine V_iload dX1_learn_141 rfl ?_
    refine V_iconst dX1_learn_143 ic_2 ?_
    refine V_aload_n dX1_learn_144 rfl rfl ?_
    refine V_get (ci := 1) (j := 3) (C0 := RX1) (T := TX1) (N := 5) dX1_learn_145 rfl g38 (by decide) (by decide) kf_X1_25 rfl ?_
    refine V_imul dX1_learn_148 ?_
    refine V_iload_n dX1_learn_149 rfl rfl ?_
    refine V_isub dX1_learn_150 ?_
    exact V_sub (by exact (And.intro rfl (And.intro rfl (And.intro rfl (And.intro rfl (And.intro rfl (And.intro rfl (And.intro rfl True.intro)))))))) (q1 z1)
  ·
    refine V_aload_n dX1_learn_55 rfl rfl ?_
    refine V_aload_n dX1_learn_56 rfl rfl ?_
    refine V_iload dX1_learn_57 rfl ?_
    exact V_sub (by exact (And.intro rfl (And.intro rfl (And.intro rfl (And.intro rfl (And.intro rfl (And.intro rfl (And.intro rfl True.intro)))))))) (q2 z1)
theorem tX1_learn_18 {G : gx} {b : bg} {h : ah} {Q : Option Value → ah → Prop} {p1 : Nat} {x2 : Int32} {x3 : Int32} {blength : Int32} {bmodulus : Int32} (g38 : h 38 = (1, .inl [.ref 39, .ref 40, .ref 41, .int blength, .int bmodulus])) (q1 : V G mX1_learn b 23 [some (.ref 38), some (.ref (p1 + 2)), some (.int x2), some (.int x3)] [.int (0 : Int32), .ref 40] h Q) : V G mX1_learn b 18 [some (.ref 38), some (.ref (p1 + 2)), some (.int x2), some (.int x3)] [] h Q := by
  refine V_aload_n dX1_learn_18 rfl rfl ?_
  refine V_get (ci := 1) (j := 1) (C0 := RX1) (T := TX1) (N := 5) dX1_learn_19 rfl g38 (by decide) (by decide) kf_X1_15 rfl ?_
  refine V_iconst dX1_learn_22 ic_0 ?_
  exact V_sub (by exact (And.intro rfl (And.intro rfl (And.intro rfl (And.intro rfl True.intro))))) (q1)
theorem tX1_learn_26 {G : gx} {b : bg} {h : ah} {Q : Option Value → ah → Prop} {p1 : Nat} {x2 : Int32} {x3 : Int32} {blength : Int32} {bmodulus : Int32} {bnow : Nat → Int32} {bear : Nat → Int32} (g38 : h 38 = (1, .inl [.ref 39, .ref 40, .ref 41, .int blength, .int bmodulus])) (g39 : h 39 = (0, .inr (201, .inl bnow))) (g40 : h 40 = (0, .inr (201, .inl bear))) (q1 : vp_in (0 : Int32) 201) (q2 : vp_in (0 : Int32) 201) (q3 : V G mX1_learn b 49 [some (.ref 38), some (.ref (p1 + 2)), some (.int x2), some (.int x3), some (.int (1 : Int32)), some (.int (1 : Int32)), some (.int (0 : Int32))] [] (va_up (va_up h 39 (0, .inr (201, .inl (upd bnow (0 : Int32).toNatClampNeg (1 : Int32))))) 40 (0, .inr (201, .inl (upd bear (0 : Int32).toNatClampNeg (1 : Int32))))) Q) : V G mX1_learn b 26 [some (.ref 38), some (.ref (p1 + 2)), some (.int x2), some (.int x3)] [] h Q := by
  refine V_aload_n dX1_learn_26 rfl rfl ?_
  refine V_get (ci := 1) (j := 0) (C0 := RX1) (T := TX1) (N := 5) dX1_learn_27 rfl g38 (by decide) (by decide) kf_X1_9 rfl ?_
  refine V_iconst dX1_learn_30 ic_0 ?_
  refine V_iconst dX1_learn_31 ic_1 ?_
  refine V_iast dX1_learn_32 g39 (q1) ?_
  refine V_aload_n dX1_learn_33 rfl rfl ?_
  refine V_get (ci := 1) (j := 1) (C0 := RX1) (T := TX1) (N := 5) dX1_learn_34 rfl g38 (by decide) (by decide) kf_X1_15 rfl ?_
  refine V_iconst dX1_learn_37 ic_0 ?_
  refine V_iconst dX1_learn_38 ic_1 ?_
  refine V_iast dX1_learn_39 g40 (q2) ?_
  refine V_iconst dX1_learn_40 ic_1 ?_
  refine V_istore dX1_learn_41 (Nat.le_of_ble_eq_true rfl) ?_
  refine V_iconst dX1_learn_43 ic_1 ?_
  refine V_istore dX1_learn_44 (Nat.le_of_ble_eq_true rfl) ?_
  refine V_iconst dX1_learn_46 ic_0 ?_
  refine V_istore dX1_learn_47 (Nat.le_of_ble_eq_true rfl) ?_
  exact V_sub (by exact (And.intro rfl (And.intro rfl (And.intro rfl (And.intro rfl (And.intro rfl (And.intro rfl (And.intro rfl True.intro)))))))) (q3)
theorem tX1_learn_62 {G : gx} {b : bg} {h : ah} {Q : Option Value → ah → Prop} {p1 : Nat} {x2 : Int32} {x3 : Int32} {x4 : Int32} {x5 : Int32} {x6 : Int32} {s0 : Int32} (q1 : (s0 = (0 : Int32)) → V G mX1_learn b 49 [some (.ref 38), some (.ref (p1 + 2)), some (.int x2), some (.int x3), some (.int x4), some (.int (x5 + (1 : Int32))), some (.int (x6 + (1 : Int32)))] [] h Q) (q2 : (¬ s0 = (0 : Int32)) → V G mX1_learn b 74 [some (.ref 38), some (.ref (p1 + 2)), some (.int x2), some (.int x3), some (.int x4), some (.int x5), some (.int x6), some (.int s0)] [.int x4, .ref 38, .int s0] h Q) : V G mX1_learn b 62 [some (.ref 38), some (.ref (p1 + 2)), some (.int x2), some (.int x3), some (.int x4), some (.int x5), some (.int x6)] [.int s0] h Q := by
  refine V_istore dX1_learn_62 (Nat.le_of_ble_eq_true rfl) ?_
  refine V_iload dX1_learn_64 rfl ?_
  refine V_if_eq (t := 131) dX1_learn_66 (by decide) (fun z1 => ?_) (fun z1 => ?_)
  ·
    refine V_inc dX1_learn_131 ic_1 rfl (Nat.le_of_ble_eq_true rfl) ?_
    refine V_inc dX1_learn_134 ic_1 rfl (Nat.le_of_ble_eq_true rfl) ?_
    refine V_goto (t := 49) dX1_learn_137 (by decide) ?_
    exact V_sub (by exact (And.intro rfl (And.intro rfl (And.intro rfl (And.intro rfl (And.intro rfl (And.intro rfl (And.intro rfl True.intro)))))))) (q1 z1)
  ·
    refine V_iload dX1_learn_69 rfl ?_
    refine V_aload_n dX1_learn_71 rfl rfl ?_
    refine V_iload dX1_learn_72 rfl ?_
    exact V_sub (by exact (And.intro rfl (And.intro rfl (And.intro rfl (And.intro rfl (And.intro rfl (And.intro rfl (And.intro rfl (And.intro rfl True.intro))))))))) (q2 z1)
theorem tX1_learn_77 {G : gx} {b : bg} {h : ah} {Q : Option Value → ah → Prop} {p1 : Nat} {x2 : Int32} {x3 : Int32} {x4 : Int32} {x5 : Int32} {x6 : Int32} {x7 : Int32} {s0 : Int32} {s1 : Int32} {blength : Int32} {bmodulus : Int32} (g38 : h 38 = (1, .inl [.ref 39, .ref 40, .ref 41, .int blength, .int bmodulus])) (q1 : ¬ bmodulus = 0) (q2 : (x6 < ((2 : Int32) * blength)) → V G mX1_learn b 128 [some (.ref 38), some (.ref (p1 + 2)), some (.int x2), some (.int x3), some (.int x4), some (.int x5), some (.int x6), some (.int x7), some (.int ((s1 * s0) - (s1 * s0) / bmodulus * bmodulus))] [.int x5, .int ((s1 * s0) - (s1 * s0) / bmodulus * bmodulus), .ref 38] h Q) (q3 : (¬ x6 < ((2 : Int32) * blength)) → V G mX1_learn b 110 [some (.ref 38), some (.ref (p1 + 2)), some (.int x2), some (.int x3), some (.int x4), some (.int x5), some (.int x6), some (.int x7), some (.int ((s1 * s0) - (s1 * s0) / bmodulus * bmodulus))] [.int ((x6 + (1 : Int32)) - blength), .int x5, .int ((s1 * s0) - (s1 * s0) / bmodulus * bmodulus), .ref 38] h Q) : V G mX1_learn b 77 [some (.ref 38), some (.ref (p1 + 2)), some (.int x2), some (.int x3), some (.int x4), some (.int x5), some (.int x6), some (.int x7)] [.int s0, .int s1] h Q := by
  refine V_imul dX1_learn_77 ?_
  refine V_aload_n dX1_learn_78 rfl rfl ?_
  refine V_get (ci := 1) (j := 4) (C0 := RX1) (T := TX1) (N := 5) dX1_learn_79 rfl g38 (by decide) (by decide) kf_X1_21 rfl ?_
  refine V_irem dX1_learn_82 (q1) ?_
  refine V_istore dX1_learn_83 (Nat.le_of_ble_eq_true rfl) ?_
  refine V_iconst dX1_learn_85 ic_2 ?_
  refine V_aload_n dX1_learn_86 rfl rfl ?_
  refine V_get (ci := 1) (j := 3) (C0 := RX1) (T := TX1) (N := 5) dX1_learn_87 rfl g38 (by decide) (by decide) kf_X1_25 rfl ?_
  refine V_imul dX1_learn_90 ?_
  refine V_iload dX1_learn_91 rfl ?_
  refine V_icmp_gt (t := 123) dX1_learn_93 (by decide) (fun z1 => ?_) (fun z1 => ?_)
  ·
    refine V_aload_n dX1_learn_123 rfl rfl ?_
    refine V_iload dX1_learn_124 rfl ?_
    refine V_iload dX1_learn_126 rfl ?_
    exact V_sub (by exact (And.intro rfl (And.intro rfl (And.intro rfl (And.intro rfl (And.intro rfl (And.intro rfl (And.intro rfl (And.intro rfl (And.intro rfl True.intro)))))))))) (q2 z1)
  ·
    refine V_aload_n dX1_learn_96 rfl rfl ?_
    refine V_iload dX1_learn_97 rfl ?_
    refine V_iload dX1_learn_99 rfl ?_
    refine V_iload dX1_learn_101 rfl ?_
    refine V_iconst dX1_learn_103 ic_1 ?_
    refine V_iadd dX1_learn_104 ?_
    refine V_aload_n dX1_learn_105 rfl rfl ?_
    refine V_get (ci := 1) (j := 3) (C0 := RX1) (T := TX1) (N := 5) dX1_learn_106 rfl g38 (by decide) (by decide) kf_X1_25 rfl ?_
    refine V_isub dX1_learn_109 ?_
    exact V_sub (by exact (And.intro rfl (And.intro rfl (And.intro rfl (And.intro rfl (And.intro rfl (And.intro rfl (And.intro rfl (And.intro rfl (And.intro rfl True.intro)))))))))) (q3 z1)
theorem tX1_learn_113 {G : gx} {b : bg} {h : ah} {Q : Option Value → ah → Prop} {p1 : Nat} {x2 : Int32} {x3 : Int32} {x4 : Int32} {x5 : Int32} {x6 : Int32} {x7 : Int32} {x8 : Int32} (q1 : V G mX1_learn b 49 [some (.ref 38), some (.ref (p1 + 2)), some (.int x2), some (.int x3), some (.int x7), some (.int ((0 : Int32) + (1 : Int32))), some (.int (x6 + (1 : Int32)))] [] h Q) : V G mX1_learn b 113 [some (.ref 38), some (.ref (p1 + 2)), some (.int x2), some (.int x3), some (.int x4), some (.int x5), some (.int x6), some (.int x7), some (.int x8)] [] h Q := by
  refine V_iload dX1_learn_113 rfl ?_
  refine V_istore dX1_learn_115 (Nat.le_of_ble_eq_true rfl) ?_
  refine V_iconst dX1_learn_117 ic_0 ?_
  refine V_istore dX1_learn_118 (Nat.le_of_ble_eq_true rfl) ?_
  refine V_goto (t := 131) dX1_learn_120 (by decide) ?_
  refine V_inc dX1_learn_131 ic_1 rfl (Nat.le_of_ble_eq_true rfl) ?_
  refine V_inc dX1_learn_134 ic_1 rfl (Nat.le_of_ble_eq_true rfl) ?_
  refine V_goto (t := 49) dX1_learn_137 (by decide) ?_
  exact V_sub (by exact (And.intro rfl (And.intro rfl (And.intro rfl (And.intro rfl (And.intro rfl (And.intro rfl (And.intro rfl True.intro)))))))) (q1)
theorem tX1_learn_131 {G : gx} {b : bg} {h : ah} {Q : Option Value → ah → Prop} {p1 : Nat} {x2 : Int32} {x3 : Int32} {x4 : Int32} {x5 : Int32} {x6 : Int32} {x7 : Int32} (q1 : V G mX1_learn b 49 [some (.ref 38), some (.ref (p1 + 2)), some (.int x2), some (.int x3), some (.int x4), some (.int (x5 + (1 : Int32))), some (.int (x6 + (1 : Int32)))] [] h Q) : V G mX1_learn b 131 [some (.ref 38), some (.ref (p1 + 2)), some (.int x2), some (.int x3), some (.int x4), some (.int x5), some (.int x6), some (.int x7)] [] h Q := by
  refine V_inc dX1_learn_131 ic_1 rfl (Nat.le_of_ble_eq_true rfl) ?_
  refine V_inc dX1_learn_134 ic_1 rfl (Nat.le_of_ble_eq_true rfl) ?_
  refine V_goto (t := 49) dX1_learn_137 (by decide) ?_
  exact V_sub (by exact (And.intro rfl (And.intro rfl (And.intro rfl (And.intro rfl (And.intro rfl (And.intro rfl (And.intro rfl True.intro)))))))) (q1)
theorem tX1_learn_154 {G : gx} {b : bg} {h : ah} {Q : Option Value → ah → Prop} {p1 : Nat} {x2 : Int32} {x3 : Int32} {x4 : Int32} {x5 : Int32} {x6 : Int32} {blength : Int32} {bmodulus : Int32} (g38 : h 38 = (1, .inl [.ref 39, .ref 40, .ref 41, .int blength, .int bmodulus])) (q1 : Q (some (.int blength)) h) : V G mX1_learn b 154 [some (.ref 38), some (.ref (p1 + 2)), some (.int x2), some (.int x3), some (.int x4), some (.int x5), some (.int x6)] [] h Q := by
  refine V_aload_n dX1_learn_154 rfl rfl ?_
  refine V_get (ci := 1) (j := 3) (C0 := RX1) (T := TX1) (N := 5) dX1_learn_155 rfl g38 (by decide) (by decide) kf_X1_25 rfl ?_
  exact V_iret dX1_learn_158 rfl (q1)
theorem cX1_learn_15 {G : gx} {d mc ms cc zz d2 mc2 ms2 : Nat} {L : List (Option Value)} {S : List Value} {h : ah} {Q Q2 : Option Value → ah → Prop} {a0 a1 : Value} (hM : Ct G mJ7_fill_53178 d2 mc2 ms2 [a0, a1] h Q2) (hdd : d2 < d ∧ d ≤ 9) (hrm : (S.map fun v => v.category).sum ≤ 8) (hf : cc + mc2 ≤ mc ∧ zz + ms2 ≤ ms) (kk : ∀ r h2, Q2 r h2 → V G mX1_learn (d, mc, ms, cc + mc2, zz + ms2) 18 L (r.toList ++ S) h2 Q) : V G mX1_learn (d, mc, ms, cc, zz) 15 L (a1 :: a0 :: S) h Q := V_callS hM dX1_learn_15 ⟨km_X1_28, kt_J7_fill_53178⟩ cw_J7_fill_53178 hdd rfl rfl hrm hf kk
theorem cX1_learn_23 {G : gx} {d mc ms cc zz d2 mc2 ms2 : Nat} {L : List (Option Value)} {S : List Value} {h : ah} {Q Q2 : Option Value → ah → Prop} {a0 a1 : Value} (hM : Ct G mJ7_fill_53178 d2 mc2 ms2 [a0, a1] h Q2) (hdd : d2 < d ∧ d ≤ 9) (hrm : (S.map fun v => v.category).sum ≤ 8) (hf : cc + mc2 ≤ mc ∧ zz + ms2 ≤ ms) (kk : ∀ r h2, Q2 r h2 → V G mX1_learn (d, mc, ms, cc + mc2, zz + ms2) 26 L (r.toList ++ S) h2 Q) : V G mX1_learn (d, mc, ms, cc, zz) 23 L (a1 :: a0 :: S) h Q := V_callS hM dX1_learn_23 ⟨km_X1_28, kt_J7_fill_53178⟩ cw_J7_fill_53178 hdd rfl rfl hrm hf kk
theorem cX1_learn_59 {G : gx} {d mc ms cc zz d2 mc2 ms2 : Nat} {L : List (Option Value)} {S : List Value} {h : ah} {Q Q2 : Option Value → ah → Prop} {k : Nat} {fs : List Value} {a0 a1 : Value} (hM : Ct G mX1_gapAt d2 mc2 ms2 (.ref (k + 2) :: [a0, a1]) h Q2) (hc : h (k + 2) = (1, .inl fs)) (hdd : d2 < d ∧ d ≤ 9) (hrm : (S.map fun v => v.category).sum ≤ 8) (hf : cc + mc2 ≤ mc ∧ zz + ms2 ≤ ms) (kk : ∀ r h2, Q2 r h2 → V G mX1_learn (d, mc, ms, cc + mc2, zz + ms2) 62 L (r.toList ++ S) h2 Q) : V G mX1_learn (d, mc, ms, cc, zz) 59 L (a1 :: a0 :: .ref (k + 2) :: S) h Q := V_callV (ci := 1) (T := TX1) (N := 5) hM dX1_learn_59 ⟨km_X1_34, ki_X1_gapAt, ks_X1_gapAt⟩ cw_X1_gapAt rfl hc (by decide) hdd rfl rfl hrm hf kk
theorem cX1_learn_74 {G : gx} {d mc ms cc zz d2 mc2 ms2 : Nat} {L : List (Option Value)} {S : List Value} {h : ah} {Q Q2 : Option Value → ah → Prop} {k : Nat} {fs : List Value} {a0 : Value} (hM : Ct G mX1_inverse d2 mc2 ms2 (.ref (k + 2) :: [a0]) h Q2) (hc : h (k + 2) = (1, .inl fs)) (hdd : d2 < d ∧ d ≤ 9) (hrm : (S.map fun v => v.category).sum ≤ 8) (hf : cc + mc2 ≤ mc ∧ zz + ms2 ≤ ms) (kk : ∀ r h2, Q2 r h2 → V G mX1_learn (d, mc, ms, cc + mc2, zz + ms2) 77 L (r.toList ++ S) h2 Q) : V G mX1_learn (d, mc, ms, cc, zz) 74 L (a0 :: .ref (k + 2) :: S) h Q := V_callV (ci := 1) (T := TX1) (N := 5) hM dX1_learn_74 ⟨km_X1_38, ki_X1_inverse, ks_X1_inverse⟩ cw_X1_inverse rfl hc (by decide) hdd rfl rfl hrm hf kk
theorem cX1_learn_110 {G : gx} {d mc ms cc zz d2 mc2 ms2 : Nat} {L : List (Option Value)} {S : List Value} {h : ah} {Q Q2 : Option Value → ah → Prop} {k : Nat} {fs : List Value} {a0 a1 a2 : Value} (hM : Ct G mX1_lengthen d2 mc2 ms2 (.ref (k + 2) :: [a0, a1, a2]) h Q2) (hc : h (k + 2) = (1, .inl fs)) (hdd : d2 < d ∧ d ≤ 9) (hrm : (S.map fun v => v.category).sum ≤ 8) (hf : cc + mc2 ≤ mc ∧ zz + ms2 ≤ ms) (kk : ∀ r h2, Q2 r h2 → V G mX1_learn (d, mc, ms, cc + mc2, zz + ms2) 113 L (r.toList ++ S) h2 Q) : V G mX1_learn (d, mc, ms, cc, zz) 110 L (a2 :: a1 :: a0 :: .ref (k + 2) :: S) h Q := V_callV (ci := 1) (T := TX1) (N := 5) hM dX1_learn_110 ⟨km_X1_42, ki_X1_lengthen, ks_X1_lengthen⟩ cw_X1_lengthen rfl hc (by decide) hdd rfl rfl hrm hf kk
theorem cX1_learn_128 {G : gx} {d mc ms cc zz d2 mc2 ms2 : Nat} {L : List (Option Value)} {S : List Value} {h : ah} {Q Q2 : Option Value → ah → Prop} {k : Nat} {fs : List Value} {a0 a1 : Value} (hM : Ct G mX1_subtractEarlier d2 mc2 ms2 (.ref (k + 2) :: [a0, a1]) h Q2) (hc : h (k + 2) = (1, .inl fs)) (hdd : d2 < d ∧ d ≤ 9) (hrm : (S.map fun v => v.category).sum ≤ 8) (hf : cc + mc2 ≤ mc ∧ zz + ms2 ≤ ms) (kk : ∀ r h2, Q2 r h2 → V G mX1_learn (d, mc, ms, cc + mc2, zz + ms2) 131 L (r.toList ++ S) h2 Q) : V G mX1_learn (d, mc, ms, cc, zz) 128 L (a1 :: a0 :: .ref (k + 2) :: S) h Q := V_callV (ci := 1) (T := TX1) (N := 5) hM dX1_learn_128 ⟨km_X1_46, ki_X1_subtractEarlier, ks_X1_subtractEarlier⟩ cw_X1_subtractEarlier rfl hc (by decide) hdd rfl rfl hrm hf kk
theorem cX1_learn_151 {G : gx} {d mc ms cc zz d2 mc2 ms2 : Nat} {L : List (Option Value)} {S : List Value} {h : ah} {Q Q2 : Option Value → ah → Prop} {k : Nat} {fs : List Value} {a0 a1 : Value} (hM : Ct G mX1_lowerNumbers d2 mc2 ms2 (.ref (k + 2) :: [a0, a1]) h Q2) (hc : h (k + 2) = (1, .inl fs)) (hdd : d2 < d ∧ d ≤ 9) (hrm : (S.map fun v => v.category).sum ≤ 8) (hf : cc + mc2 ≤ mc ∧ zz + ms2 ≤ ms) (kk : ∀ r h2, Q2 r h2 → V G mX1_learn (d, mc, ms, cc + mc2, zz + ms2) 154 L (r.toList ++ S) h2 Q) : V G mX1_learn (d, mc, ms, cc, zz) 151 L (a1 :: a0 :: .ref (k + 2) :: S) h Q := V_callV (ci := 1) (T := TX1) (N := 5) hM dX1_learn_151 ⟨km_X1_50, ki_X1_lowerNumbers, ks_X1_lowerNumbers⟩ cw_X1_lowerNumbers rfl hc (by decide) hdd rfl rfl hrm hf kk
theorem tX1_gapAt_0 {G : gx} {b : bg} {h : ah} {Q : Option Value → ah → Prop} {p1 : Nat} {x2 : Int32} (q1 : V G mX1_gapAt b 5 [some (.ref 38), some (.ref (p1 + 2)), some (.int x2), some (.int (0 : Int32)), some (.int (0 : Int32))] [] h Q) : V G mX1_gapAt b 0 [some (.ref 38), some (.ref (p1 + 2)), some (.int x2)] [] h Q := by
  refine V_iconst dX1_gapAt_0 ic_0 ?_
  refine V_istore_n dX1_gapAt_1 rfl (Nat.le_of_ble_eq_true rfl) ?_
  refine V_iconst dX1_gapAt_2 ic_0 ?_
  refine V_istore dX1_gapAt_3 (Nat.le_of_ble_eq_true rfl) ?_
  exact V_sub (by exact (And.intro rfl (And.intro rfl (And.intro rfl (And.intro rfl (And.intro rfl True.intro)))))) (q1)
theorem tX1_gapAt_5 {G : gx} {b : bg} {h : ah} {Q : Option Value → ah → Prop} {p1 : Nat} {x2 : Int32} {x3 : Int32} {x4 : Int32} {blength : Int32} {bmodulus : Int32} {bnow : Nat → Int32} {fp1 : Nat → Int32} {np1 : Nat} (g38 : h 38 = (1, .inl [.ref 39, .ref 40, .ref 41, .int blength, .int bmodulus])) (g39 : h 39 = (0, .inr (201, .inl bnow))) (gp12 : h (p1 + 2) = (0, .inr (np1, .inl fp1))) (q1 : (blength < x4) → ¬ bmodulus = 0) (q2 : (blength < x4) → Q (some (.int (x3 - x3 / bmodulus * bmodulus))) h) (q3 : (¬ blength < x4) → vp_in x4 201) (q4 : (¬ blength < x4) → vp_in (x2 - x4) np1) (q5 : (¬ blength < x4) → V G mX1_gapAt b 5 [some (.ref 38), some (.ref (p1 + 2)), some (.int x2), some (.int (x3 + ((bnow x4.toNatClampNeg) * (fp1 (x2 - x4).toNatClampNeg)))), some (.int (x4 + (1 : Int32)))] [] h Q) : V G mX1_gapAt b 5 [some (.ref 38), some (.ref (p1 + 2)), some (.int x2), some (.int x3), some (.int x4)] [] h Q := by
  refine V_iload dX1_gapAt_5 rfl ?_
  refine V_aload_n dX1_gapAt_7 rfl rfl ?_
  refine V_get (ci := 1) (j := 3) (C0 := RX1) (T := TX1) (N := 5) dX1_gapAt_8 rfl g38 (by decide) (by decide) kf_X1_25 rfl ?_
  refine V_icmp_gt (t := 37) dX1_gapAt_11 (by decide) (fun z1 => ?_) (fun z1 => ?_)
  ·
    refine V_iload_n dX1_gapAt_37 rfl rfl ?_
    refine V_aload_n dX1_gapAt_38 rfl rfl ?_
    refine V_get (ci := 1) (j := 4) (C0 := RX1) (T := TX1) (N := 5) dX1_gapAt_39 rfl g38 (by decide) (by decide) kf_X1_21 rfl ?_
    refine V_irem dX1_gapAt_42 (q1 z1) ?_
    exact V_iret dX1_gapAt_43 rfl (q2 z1)
  ·
    refine V_iload_n dX1_gapAt_14 rfl rfl ?_
    refine V_aload_n dX1_gapAt_15 rfl rfl ?_
    refine V_get (ci := 1) (j := 0) (C0 := RX1) (T := TX1) (N := 5) dX1_gapAt_16 rfl g38 (by decide) (by decide) kf_X1_9 rfl ?_
    refine V_iload dX1_gapAt_19 rfl ?_
    refine V_iald dX1_gapAt_21 g39 (q3 z1) ?_
    refine V_aload_n dX1_gapAt_22 rfl rfl ?_
    refine V_iload_n dX1_gapAt_23 rfl rfl ?_
    refine V_iload dX1_gapAt_24 rfl ?_
    refine V_isub dX1_gapAt_26 ?_
    refine V_iald dX1_gapAt_27 gp12 (q4 z1) ?_
    refine V_imul dX1_gapAt_28 ?_
    refine V_iadd dX1_gapAt_29 ?_
    refine V_istore_n dX1_gapAt_30 rfl (Nat.le_of_ble_eq_true rfl) ?_
    refine V_inc dX1_gapAt_31 ic_1 rfl (Nat.le_of_ble_eq_true rfl) ?_
    refine V_goto (t := 5) dX1_gapAt_34 (by decide) ?_
    exact V_sub (by exact (And.intro rfl (And.intro rfl (And.intro rfl (And.intro rfl (And.intro rfl True.intro)))))) (q5 z1)
theorem tX1_inverse_0 {G : gx} {b : bg} {h : ah} {Q : Option Value → ah → Prop} {x1 : Int32} (q1 : V G mX1_inverse b 2 [some (.ref 38), some (.int x1), some (.int (1 : Int32))] [] h Q) : V G mX1_inverse b 0 [some (.ref 38), some (.int x1)] [] h Q := by
  refine V_iconst dX1_inverse_0 ic_1 ?_
  refine V_istore_n dX1_inverse_1 rfl (Nat.le_of_ble_eq_true rfl) ?_
  exact V_sub (by exact (And.intro rfl (And.intro rfl (And.intro rfl True.intro)))) (q1)
theorem tX1_inverse_2 {G : gx} {b : bg} {h : ah} {Q : Option Value → ah → Prop} {x1 : Int32} {x2 : Int32} {blength : Int32} {bmodulus : Int32} (g38 : h 38 = (1, .inl [.ref 39, .ref 40, .ref 41, .int blength, .int bmodulus])) (q1 : (bmodulus ≤ x2) → Q (some (.int x2)) h) (q2 : (¬ bmodulus ≤ x2) → ¬ bmodulus = 0) (q3 : (¬ bmodulus ≤ x2) → (((x2 * x1) - (x2 * x1) / bmodulus * bmodulus) = (1 : Int32)) → Q (some (.int x2)) h) (q4 : (¬ bmodulus ≤ x2) → (¬ ((x2 * x1) - (x2 * x1) / bmodulus * bmodulus) = (1 : Int32)) → V G mX1_inverse b 2 [some (.ref 38), some (.int x1), some (.int (x2 + (1 : Int32)))] [] h Q) : V G mX1_inverse b 2 [some (.ref 38), some (.int x1), some (.int x2)] [] h Q := by
  refine V_iload_n dX1_inverse_2 rfl rfl ?_
  refine V_aload_n dX1_inverse_3 rfl rfl ?_
  refine V_get (ci := 1) (j := 4) (C0 := RX1) (T := TX1) (N := 5) dX1_inverse_4 rfl g38 (by decide) (by decide) kf_X1_21 rfl ?_
  refine V_icmp_ge (t := 28) dX1_inverse_7 (by decide) (fun z1 => ?_) (fun z1 => ?_)
  ·
    refine V_iload_n dX1_inverse_28 rfl rfl ?_
    exact V_iret dX1_inverse_29 rfl (q1 z1)
  ·
    refine V_iload_n dX1_inverse_10 rfl rfl ?_
    refine V_iload_n dX1_inverse_11 rfl rfl ?_
    refine V_imul dX1_inverse_12 ?_
    refine V_aload_n dX1_inverse_13 rfl rfl ?_
    refine V_get (ci := 1) (j := 4) (C0 := RX1) (T := TX1) (N := 5) dX1_inverse_14 rfl g38 (by decide) (by decide) kf_X1_21 rfl ?_
    refine V_irem dX1_inverse_17 (q2 z1) ?_
    refine V_iconst dX1_inverse_18 ic_1 ?_
    refine V_icmp_eq (t := 28) dX1_inverse_19 (by decide) (fun z2 => ?_) (fun z2 => ?_)
    ·
      refine V_iload_n dX1_inverse_28 rfl rfl ?_
      exact V_iret dX1_inverse_29 rfl (q3 z1 z2)
    ·
      refine V_inc dX1_inverse_22 ic_1 rfl (Nat.le_of_ble_eq_true rfl) ?_
      refine V_goto (t := 2) dX1_inverse_25 (by decide) ?_
      exact V_sub (by exact (And.intro rfl (And.intro rfl (And.intro rfl True.intro)))) (q4 z1 z2)
theorem tX1_lengthen_0 {G : gx} {b : bg} {h : ah} {Q : Option Value → ah → Prop} {x1 : Int32} {x2 : Int32} {x3 : Int32} {blength : Int32} {bmodulus : Int32} {bnow : Nat → Int32} (g38 : h 38 = (1, .inl [.ref 39, .ref 40, .ref 41, .int blength, .int bmodulus])) (g39 : h 39 = (0, .inr (201, .inl bnow))) (q1 : V G mX1_lengthen b 15 [some (.ref 38), some (.int x1), some (.int x2), some (.int x3)] [.int (nI 201), .int (0 : Int32), .ref 41, .int (0 : Int32), .ref 39] h Q) : V G mX1_lengthen b 0 [some (.ref 38), some (.int x1), some (.int x2), some (.int x3)] [] h Q := by
  refine V_aload_n dX1_lengthen_0 rfl rfl ?_
  refine V_get (ci := 1) (j := 0) (C0 := RX1) (T := TX1) (N := 5) dX1_lengthen_1 rfl g38 (by decide) (by decide) kf_X1_9 rfl ?_
  refine V_iconst dX1_lengthen_4 ic_0 ?_
  refine V_aload_n dX1_lengthen_5 rfl rfl ?_
  refine V_get (ci := 1) (j := 2) (C0 := RX1) (T := TX1) (N := 5) dX1_lengthen_6 rfl g38 (by decide) (by decide) kf_X1_18 rfl ?_
  refine V_iconst dX1_lengthen_9 ic_0 ?_
  refine V_aload_n dX1_lengthen_10 rfl rfl ?_
  refine V_get (ci := 1) (j := 0) (C0 := RX1) (T := TX1) (N := 5) dX1_lengthen_11 rfl g38 (by decide) (by decide) kf_X1_9 rfl ?_
  refine V_alen dX1_lengthen_14 g39 (by decide) ?_
  exact V_sub (by exact (And.intro rfl (And.intro rfl (And.intro rfl (And.intro rfl True.intro))))) (q1)
theorem tX1_lengthen_18 {G : gx} {b : bg} {h : ah} {Q : Option Value → ah → Prop} {x1 : Int32} {x2 : Int32} {x3 : Int32} (q1 : V G mX1_lengthen b 21 [some (.ref 38), some (.int x1), some (.int x2), some (.int x3)] [.int x2, .int x1, .ref 38] h Q) : V G mX1_lengthen b 18 [some (.ref 38), some (.int x1), some (.int x2), some (.int x3)] [] h Q := by
  refine V_aload_n dX1_lengthen_18 rfl rfl ?_
  refine V_iload_n dX1_lengthen_19 rfl rfl ?_
  refine V_iload_n dX1_lengthen_20 rfl rfl ?_
  exact V_sub (by exact (And.intro rfl (And.intro rfl (And.intro rfl (And.intro rfl True.intro))))) (q1)
theorem tX1_lengthen_24 {G : gx} {b : bg} {h : ah} {Q : Option Value → ah → Prop} {x1 : Int32} {x2 : Int32} {x3 : Int32} {blength : Int32} {bmodulus : Int32} {bspa : Nat → Int32} (g38 : h 38 = (1, .inl [.ref 39, .ref 40, .ref 41, .int blength, .int bmodulus])) (g41 : h 41 = (0, .inr (201, .inl bspa))) (q1 : V G mX1_lengthen b 39 [some (.ref 38), some (.int x1), some (.int x2), some (.int x3)] [.int (nI 201), .int (0 : Int32), .ref 40, .int (0 : Int32), .ref 41] h Q) : V G mX1_lengthen b 24 [some (.ref 38), some (.int x1), some (.int x2), some (.int x3)] [] h Q := by
  refine V_aload_n dX1_lengthen_24 rfl rfl ?_
  refine V_get (ci := 1) (j := 2) (C0 := RX1) (T := TX1) (N := 5) dX1_lengthen_25 rfl g38 (by decide) (by decide) kf_X1_18 rfl ?_
  refine V_iconst dX1_lengthen_28 ic_0 ?_
  refine V_aload_n dX1_lengthen_29 rfl rfl ?_
  refine V_get (ci := 1) (j := 1) (C0 := RX1) (T := TX1) (N := 5) dX1_lengthen_30 rfl g38 (by decide) (by decide) kf_X1_15 rfl ?_
  refine V_iconst dX1_lengthen_33 ic_0 ?_
  refine V_aload_n dX1_lengthen_34 rfl rfl ?_
  refine V_get (ci := 1) (j := 2) (C0 := RX1) (T := TX1) (N := 5) dX1_lengthen_35 rfl g38 (by decide) (by decide) kf_X1_18 rfl ?_
  refine V_alen dX1_lengthen_38 g41 (by decide) ?_
  exact V_sub (by exact (And.intro rfl (And.intro rfl (And.intro rfl (And.intro rfl True.intro))))) (q1)
theorem tX1_lengthen_42 {G : gx} {b : bg} {h : ah} {Q : Option Value → ah → Prop} {x1 : Int32} {x2 : Int32} {x3 : Int32} {blength : Int32} {bmodulus : Int32} (g38 : h 38 = (1, .inl [.ref 39, .ref 40, .ref 41, .int blength, .int bmodulus])) (q1 : Q none (va_up h 38 (1, .inl [.ref 39, .ref 40, .ref 41, .int x3, .int bmodulus]))) : V G mX1_lengthen b 42 [some (.ref 38), some (.int x1), some (.int x2), some (.int x3)] [] h Q := by
  refine V_aload_n dX1_lengthen_42 rfl rfl ?_
  refine V_iload_n dX1_lengthen_43 rfl rfl ?_
  refine V_put (ci := 1) (j := 3) (C0 := RX1) (T := TX1) (N := 5) (ty := .int) dX1_lengthen_44 rfl g38 (by decide) (by decide) kf_X1_25 rfl (by decide +kernel) rfl rfl (Nat.le_of_ble_eq_true rfl) ?_
  exact V_vret dX1_lengthen_47 rfl (q1)
theorem cX1_lengthen_21 {G : gx} {d mc ms cc zz d2 mc2 ms2 : Nat} {L : List (Option Value)} {S : List Value} {h : ah} {Q Q2 : Option Value → ah → Prop} {k : Nat} {fs : List Value} {a0 a1 : Value} (hM : Ct G mX1_subtractEarlier d2 mc2 ms2 (.ref (k + 2) :: [a0, a1]) h Q2) (hc : h (k + 2) = (1, .inl fs)) (hdd : d2 < d ∧ d ≤ 9) (hrm : (S.map fun v => v.category).sum ≤ 8) (hf : cc + mc2 ≤ mc ∧ zz + ms2 ≤ ms) (kk : ∀ r h2, Q2 r h2 → V G mX1_lengthen (d, mc, ms, cc + mc2, zz + ms2) 24 L (r.toList ++ S) h2 Q) : V G mX1_lengthen (d, mc, ms, cc, zz) 21 L (a1 :: a0 :: .ref (k + 2) :: S) h Q := V_callV (ci := 1) (T := TX1) (N := 5) hM dX1_lengthen_21 ⟨km_X1_46, ki_X1_subtractEarlier, ks_X1_subtractEarlier⟩ cw_X1_subtractEarlier rfl hc (by decide) hdd rfl rfl hrm hf kk
theorem tX1_subtractEarlier_0 {G : gx} {b : bg} {h : ah} {Q : Option Value → ah → Prop} {x1 : Int32} {x2 : Int32} (q1 : V G mX1_subtractEarlier b 2 [some (.ref 38), some (.int x1), some (.int x2), some (.int (0 : Int32))] [] h Q) : V G mX1_subtractEarlier b 0 [some (.ref 38), some (.int x1), some (.int x2)] [] h Q := by
  refine V_iconst dX1_subtractEarlier_0 ic_0 ?_
  refine V_istore_n dX1_subtractEarlier_1 rfl (Nat.le_of_ble_eq_true rfl) ?_
  exact V_sub (by exact (And.intro rfl (And.intro rfl (And.intro rfl (And.intro rfl True.intro))))) (q1)
theorem tX1_subtractEarlier_2 {G : gx} {b : bg} {h : ah} {Q : Option Value → ah → Prop} {x1 : Int32} {x2 : Int32} {x3 : Int32} {blength : Int32} {bmodulus : Int32} {bnow : Nat → Int32} {bear : Nat → Int32} (g38 : h 38 = (1, .inl [.ref 39, .ref 40, .ref 41, .int blength, .int bmodulus])) (g39 : h 39 = (0, .inr (201, .inl bnow))) (g40 : h 40 = (0, .inr (201, .inl bear))) (q1 : ((nI 201) ≤ (x3 + x2)) → Q none h) (q2 : (¬ (nI 201) ≤ (x3 + x2)) → vp_in (x3 + x2) 201) (q3 : (¬ (nI 201) ≤ (x3 + x2)) → vp_in x3 201) (q4 : (¬ (nI 201) ≤ (x3 + x2)) → ¬ bmodulus = 0) (q5 : (¬ (nI 201) ≤ (x3 + x2)) → vp_in (x3 + x2) 201) (q6 : (¬ (nI 201) ≤ (x3 + x2)) → V G mX1_subtractEarlier b 2 [some (.ref 38), some (.int x1), some (.int x2), some (.int (x3 + (1 : Int32)))] [] (va_up h 39 (0, .inr (201, .inl (upd bnow (x3 + x2).toNatClampNeg (((bnow (x3 + x2).toNatClampNeg) + ((bmodulus - x1) * (bear x3.toNatClampNeg))) - ((bnow (x3 + x2).toNatClampNeg) + ((bmodulus - x1) * (bear x3.toNatClampNeg))) / bmodulus * bmodulus))))) Q) : V G mX1_subtractEarlier b 2 [some (.ref 38), some (.int x1), some (.int x2), some (.int x3)] [] h Q := by
  refine V_iload_n dX1_subtractEarlier_2 rfl rfl ?_
  refine V_iload_n dX1_subtractEarlier_3 rfl rfl ?_
  refine V_iadd dX1_subtractEarlier_4 ?_
  refine V_aload_n dX1_subtractEarlier_5 rfl rfl ?_
  refine V_get (ci := 1) (j := 0) (C0 := RX1) (T := TX1) (N := 5) dX1_subtractEarlier_6 rfl g38 (by decide) (by decide) kf_X1_9 rfl ?_
  refine V_alen dX1_subtractEarlier_9 g39 (by decide) ?_
  refine V_icmp_ge (t := 54) dX1_subtractEarlier_10 (by decide) (fun z1 => ?_) (fun z1 => ?_)
  ·
    exact V_vret dX1_subtractEarlier_54 rfl (q1 z1)
  ·
    refine V_aload_n dX1_subtractEarlier_13 rfl rfl ?_
    refine V_get (ci := 1) (j := 0) (C0 := RX1) (T := TX1) (N := 5) dX1_subtractEarlier_14 rfl g38 (by decide) (by decide) kf_X1_9 rfl ?_
    refine V_iload_n dX1_subtractEarlier_17 rfl rfl ?_
    refine V_iload_n dX1_subtractEarlier_18 rfl rfl ?_
    refine V_iadd dX1_subtractEarlier_19 ?_
    refine V_aload_n dX1_subtractEarlier_20 rfl rfl ?_
    refine V_get (ci := 1) (j := 0) (C0 := RX1) (T := TX1) (N := 5) dX1_subtractEarlier_21 rfl g38 (by decide) (by decide) kf_X1_9 rfl ?_
    refine V_iload_n dX1_subtractEarlier_24 rfl rfl ?_
    refine V_iload_n dX1_subtractEarlier_25 rfl rfl ?_
    refine V_iadd dX1_subtractEarlier_26 ?_
    refine V_iald dX1_subtractEarlier_27 g39 (q2 z1) ?_
    refine V_aload_n dX1_subtractEarlier_28 rfl rfl ?_
    refine V_get (ci := 1) (j := 4) (C0 := RX1) (T := TX1) (N := 5) dX1_subtractEarlier_29 rfl g38 (by decide) (by decide) kf_X1_21 rfl ?_
    refine V_iload_n dX1_subtractEarlier_32 rfl rfl ?_
    refine V_isub dX1_subtractEarlier_33 ?_
    refine V_aload_n dX1_subtractEarlier_34 rfl rfl ?_
    refine V_get (ci := 1) (j := 1) (C0 := RX1) (T := TX1) (N := 5) dX1_subtractEarlier_35 rfl g38 (by decide) (by decide) kf_X1_15 rfl ?_
    refine V_iload_n dX1_subtractEarlier_38 rfl rfl ?_
    refine V_iald dX1_subtractEarlier_39 g40 (q3 z1) ?_
    refine V_imul dX1_subtractEarlier_40 ?_
    refine V_iadd dX1_subtractEarlier_41 ?_
    refine V_aload_n dX1_subtractEarlier_42 rfl rfl ?_
    refine V_get (ci := 1) (j := 4) (C0 := RX1) (T := TX1) (N := 5) dX1_subtractEarlier_43 rfl g38 (by decide) (by decide) kf_X1_21 rfl ?_
    refine V_irem dX1_subtractEarlier_46 (q4 z1) ?_
    refine V_iast dX1_subtractEarlier_47 g39 (q5 z1) ?_
    refine V_inc dX1_subtractEarlier_48 ic_1 rfl (Nat.le_of_ble_eq_true rfl) ?_
    refine V_goto (t := 2) dX1_subtractEarlier_51 (by decide) ?_
    exact V_sub (by exact (And.intro rfl (And.intro rfl (And.intro rfl (And.intro rfl True.intro))))) (q6 z1)
theorem tX1_lowerNumbers_0 {G : gx} {b : bg} {h : ah} {Q : Option Value → ah → Prop} {x1 : Int32} {x2 : Int32} (q1 : V G mX1_lowerNumbers b 2 [some (.ref 38), some (.int x1), some (.int x2), some (.int x1)] [] h Q) : V G mX1_lowerNumbers b 0 [some (.ref 38), some (.int x1), some (.int x2)] [] h Q := by
  refine V_iload_n dX1_lowerNumbers_0 rfl rfl ?_
  refine V_istore_n dX1_lowerNumbers_1 rfl (Nat.le_of_ble_eq_true rfl) ?_
  exact V_sub (by exact (And.intro rfl (And.intro rfl (And.intro rfl (And.intro rfl True.intro))))) (q1)
theorem tX1_lowerNumbers_2 {G : gx} {b : bg} {h : ah} {Q : Option Value → ah → Prop} {x1 : Int32} {x2 : Int32} {x3 : Int32} {blength : Int32} {bmodulus : Int32} {bnow : Nat → Int32} (g38 : h 38 = (1, .inl [.ref 39, .ref 40, .ref 41, .int blength, .int bmodulus])) (g39 : h 39 = (0, .inr (201, .inl bnow))) (q1 : ((x1 + x2) ≤ x3) → Q none h) (q2 : (¬ (x1 + x2) ≤ x3) → ((nI 201) ≤ x3) → Q none h) (q3 : (¬ (x1 + x2) ≤ x3) → (¬ (nI 201) ≤ x3) → vp_in x3 201) (q4 : (¬ (x1 + x2) ≤ x3) → (¬ (nI 201) ≤ x3) → ((bnow x3.toNatClampNeg) = (0 : Int32)) → V G mX1_lowerNumbers b 2 [some (.ref 38), some (.int x1), some (.int x2), some (.int (x3 + (1 : Int32)))] [] h Q) (q5 : (¬ (x1 + x2) ≤ x3) → (¬ (nI 201) ≤ x3) → (¬ (bnow x3.toNatClampNeg) = (0 : Int32)) → vp_in x3 201) (q6 : (¬ (x1 + x2) ≤ x3) → (¬ (nI 201) ≤ x3) → (¬ (bnow x3.toNatClampNeg) = (0 : Int32)) → V G mX1_lowerNumbers b 35 [some (.ref 38), some (.int x1), some (.int x2), some (.int x3)] [.int x3, .int (bnow x3.toNatClampNeg), .ref 38] h Q) : V G mX1_lowerNumbers b 2 [some (.ref 38), some (.int x1), some (.int x2), some (.int x3)] [] h Q := by
  refine V_iload_n dX1_lowerNumbers_2 rfl rfl ?_
  refine V_iload_n dX1_lowerNumbers_3 rfl rfl ?_
  refine V_iload_n dX1_lowerNumbers_4 rfl rfl ?_
  refine V_iadd dX1_lowerNumbers_5 ?_
  refine V_icmp_ge (t := 44) dX1_lowerNumbers_6 (by decide) (fun z1 => ?_) (fun z1 => ?_)
  ·
    exact V_vret dX1_lowerNumbers_44 rfl (q1 z1)
  ·
    refine V_iload_n dX1_lowerNumbers_9 rfl rfl ?_
    refine V_aload_n dX1_lowerNumbers_10 rfl rfl ?_
    refine V_get (ci := 1) (j := 0) (C0 := RX1) (T := TX1) (N := 5) dX1_lowerNumbers_11 rfl g38 (by decide) (by decide) kf_X1_9 rfl ?_
    refine V_alen dX1_lowerNumbers_14 g39 (by decide) ?_
    refine V_icmp_ge (t := 44) dX1_lowerNumbers_15 (by decide) (fun z2 => ?_) (fun z2 => ?_)
    ·
      exact V_vret dX1_lowerNumbers_44 rfl (q2 z1 z2)
    ·
      refine V_aload_n dX1_lowerNumbers_18 rfl rfl ?_
      refine V_get (ci := 1) (j := 0) (C0 := RX1) (T := TX1) (N := 5) dX1_lowerNumbers_19 rfl g38 (by decide) (by decide) kf_X1_9 rfl ?_
      refine V_iload_n dX1_lowerNumbers_22 rfl rfl ?_
      refine V_iald dX1_lowerNumbers_23 g39 (q3 z1 z2) ?_
      refine V_if_eq (t := 38) dX1_lowerNumbers_24 (by decide) (fun z3 => ?_) (fun z3 => ?_)
      ·
        refine V_inc dX1_lowerNumbers_38 ic_1 rfl (Nat.le_of_ble_eq_true rfl) ?_
        refine V_goto (t := 2) dX1_lowerNumbers_41 (by decide) ?_
        exact V_sub (by exact (And.intro rfl (And.intro rfl (And.intro rfl (And.intro rfl True.intro))))) (q4 z1 z2 z3)
      ·
        refine V_aload_n dX1_lowerNumbers_27 rfl rfl ?_
        refine V_aload_n dX1_lowerNumbers_28 rfl rfl ?_
        refine V_get (ci := 1) (j := 0) (C0 := RX1) (T := TX1) (N := 5) dX1_lowerNumbers_29 rfl g38 (by decide) (by decide) kf_X1_9 rfl ?_
        refine V_iload_n dX1_lowerNumbers_32 rfl rfl ?_
        refine V_iald dX1_lowerNumbers_33 g39 (q5 z1 z2 z3) ?_
        refine V_iload_n dX1_lowerNumbers_34 rfl rfl ?_
        exact V_sub (by exact (And.intro rfl (And.intro rfl (And.intro rfl (And.intro rfl True.intro))))) (q6 z1 z2 z3)
theorem tX1_lowerNumbers_38 {G : gx} {b : bg} {h : ah} {Q : Option Value → ah → Prop} {x1 : Int32} {x2 : Int32} {x3 : Int32} (q1 : V G mX1_lowerNumbers b 2 [some (.ref 38), some (.int x1), some (.int x2), some (.int (x3 + (1 : Int32)))] [] h Q) : V G mX1_lowerNumbers b 38 [some (.ref 38), some (.int x1), some (.int x2), some (.int x3)] [] h Q := by
  refine V_inc dX1_lowerNumbers_38 ic_1 rfl (Nat.le_of_ble_eq_true rfl) ?_
  refine V_goto (t := 2) dX1_lowerNumbers_41 (by decide) ?_
  exact V_sub (by exact (And.intro rfl (And.intro rfl (And.intro rfl (And.intro rfl True.intro))))) (q1)
theorem cX1_lowerNumbers_35 {G : gx} {d mc ms cc zz d2 mc2 ms2 : Nat} {L : List (Option Value)} {S : List Value} {h : ah} {Q Q2 : Option Value → ah → Prop} {k : Nat} {fs : List Value} {a0 a1 : Value} (hM : Ct G mX1_subtractEarlier d2 mc2 ms2 (.ref (k + 2) :: [a0, a1]) h Q2) (hc : h (k + 2) = (1, .inl fs)) (hdd : d2 < d ∧ d ≤ 9) (hrm : (S.map fun v => v.category).sum ≤ 8) (hf : cc + mc2 ≤ mc ∧ zz + ms2 ≤ ms) (kk : ∀ r h2, Q2 r h2 → V G mX1_lowerNumbers (d, mc, ms, cc + mc2, zz + ms2) 38 L (r.toList ++ S) h2 Q) : V G mX1_lowerNumbers (d, mc, ms, cc, zz) 35 L (a1 :: a0 :: .ref (k + 2) :: S) h Q := V_callV (ci := 1) (T := TX1) (N := 5) hM dX1_lowerNumbers_35 ⟨km_X1_46, ki_X1_subtractEarlier, ks_X1_subtractEarlier⟩ cw_X1_subtractEarlier rfl hc (by decide) hdd rfl rfl hrm hf kk
