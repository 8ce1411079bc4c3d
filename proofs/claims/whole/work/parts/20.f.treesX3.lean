/-! trees of X3 -/
theorem tX3_ringsUpTo_0 {G : gx} {b : bg} {h : ah} {Q : Option Value → ah → Prop} {x1 : Int32} (q1 : ((0 : Int32) ≤ x1) → V G mX3_ringsUpTo b 10 [some (.ref 5), some (.int x1), some (.int (0 : Int32)), some (.int (1 : Int32))] [] h Q) (q2 : (¬ (0 : Int32) ≤ x1) → Q (some (.int (0 : Int32))) h) : V G mX3_ringsUpTo b 0 [some (.ref 5), some (.int x1)] [] h Q := by
  refine V_iload_n dX3_ringsUpTo_0 rfl rfl ?_
  refine V_if_ge (t := 6) dX3_ringsUpTo_1 (by decide) (fun z1 => ?_) (fun z1 => ?_)
  ·
    refine V_iconst dX3_ringsUpTo_6 ic_0 ?_
    refine V_istore_n dX3_ringsUpTo_7 rfl (Nat.le_of_ble_eq_true rfl) ?_
    refine V_iconst dX3_ringsUpTo_8 ic_1 ?_
    refine V_istore_n dX3_ringsUpTo_9 rfl (Nat.le_of_ble_eq_true rfl) ?_
    exact V_sub (by exact (And.intro rfl (And.intro rfl (And.intro rfl (And.intro rfl True.intro))))) (q1 z1)
  ·
    refine V_iconst dX3_ringsUpTo_4 ic_0 ?_
    exact V_iret dX3_ringsUpTo_5 rfl (q2 z1)
theorem tX3_ringsUpTo_10 {G : gx} {b : bg} {h : ah} {Q : Option Value → ah → Prop} {x1 : Int32} {x2 : Int32} {x3 : Int32} {wletters : Int32} {wlength : Int32} {wall : Int32} {whigh : Int32} (g5 : h 5 = (3, .inl [.ref 3, .ref 6, .ref 7, .ref 8])) (g3 : h 3 = (6, .inl [.ref 4, .int wletters, .int wlength, .int wall, .int whigh])) (q1 : (wlength < x3) → ¬ wlength = 0) (q2 : (wlength < x3) → Q (some (.int (x2 / wlength))) h) (q3 : (¬ wlength < x3) → ¬ x3 = 0) (q4 : (¬ wlength < x3) → (¬ (wlength - wlength / x3 * x3) = (0 : Int32)) → V G mX3_ringsUpTo b 10 [some (.ref 5), some (.int x1), some (.int x2), some (.int (x3 + (1 : Int32)))] [] h Q) (q5 : (¬ wlength < x3) → ((wlength - wlength / x3 * x3) = (0 : Int32)) → ¬ x3 = 0) (q6 : (¬ wlength < x3) → ((wlength - wlength / x3 * x3) = (0 : Int32)) → vp_in (wlength / x3) 15) (q7 : (¬ wlength < x3) → ((wlength - wlength / x3 * x3) = (0 : Int32)) → V G mX3_ringsUpTo b 52 [some (.ref 5), some (.int x1), some (.int x2), some (.int x3)] [.int x1, .int x3, .ref 5, .int x3, .ref 5, .int (totF (wlength / x3).toNatClampNeg), .int x2] h Q) : V G mX3_ringsUpTo b 10 [some (.ref 5), some (.int x1), some (.int x2), some (.int x3)] [] h Q := by
  refine V_iload_n dX3_ringsUpTo_10 rfl rfl ?_
  refine V_aload_n dX3_ringsUpTo_11 rfl rfl ?_
  refine V_get (ci := 3) (j := 0) (C0 := RX3) (T := TX3) (N := 4) dX3_ringsUpTo_12 rfl g5 (by decide) (by decide) kf_X3_21 rfl ?_
  refine V_getN (ci := 6) (j := 2) (C0 := RX6) (T := TX6) (N := 5) dX3_ringsUpTo_15 rfl g3 (by decide) (by decide) kf_X3_25 rfl ?_
  refine V_icmp_gt (t := 67) dX3_ringsUpTo_18 (by decide) (fun z1 => ?_) (fun z1 => ?_)
  ·
    refine V_iload_n dX3_ringsUpTo_67 rfl rfl ?_
    refine V_aload_n dX3_ringsUpTo_68 rfl rfl ?_
    refine V_get (ci := 3) (j := 0) (C0 := RX3) (T := TX3) (N := 4) dX3_ringsUpTo_69 rfl g5 (by decide) (by decide) kf_X3_21 rfl ?_
    refine V_getN (ci := 6) (j := 2) (C0 := RX6) (T := TX6) (N := 5) dX3_ringsUpTo_72 rfl g3 (by decide) (by decide) kf_X3_25 rfl ?_
    refine V_idiv dX3_ringsUpTo_75 (q1 z1) ?_
    exact V_iret dX3_ringsUpTo_76 rfl (q2 z1)
  ·
    refine V_aload_n dX3_ringsUpTo_21 rfl rfl ?_
    refine V_get (ci := 3) (j := 0) (C0 := RX3) (T := TX3) (N := 4) dX3_ringsUpTo_22 rfl g5 (by decide) (by decide) kf_X3_21 rfl ?_
    refine V_getN (ci := 6) (j := 2) (C0 := RX6) (T := TX6) (N := 5) dX3_ringsUpTo_25 rfl g3 (by decide) (by decide) kf_X3_25 rfl ?_
    refine V_iload_n dX3_ringsUpTo_28 rfl rfl ?_
    refine V_irem dX3_ringsUpTo_29 (q3 z1) ?_
    refine V_if_ne (t := 61) dX3_ringsUpTo_30 (by decide) (fun z2 => ?_) (fun z2 => ?_)
    ·
      refine V_inc dX3_ringsUpTo_61 ic_1 rfl (Nat.le_of_ble_eq_true rfl) ?_
      refine V_goto (t := 10) dX3_ringsUpTo_64 (by decide) ?_
      exact V_sub (by exact (And.intro rfl (And.intro rfl (And.intro rfl (And.intro rfl True.intro))))) (q4 z1 z2)
    ·
      refine V_iload_n dX3_ringsUpTo_33 rfl rfl ?_
      refine V_gets dX3_ringsUpTo_34 kf_X3_31 ?_
      refine V_aload_n dX3_ringsUpTo_37 rfl rfl ?_
      refine V_get (ci := 3) (j := 0) (C0 := RX3) (T := TX3) (N := 4) dX3_ringsUpTo_38 rfl g5 (by decide) (by decide) kf_X3_21 rfl ?_
      refine V_getN (ci := 6) (j := 2) (C0 := RX6) (T := TX6) (N := 5) dX3_ringsUpTo_41 rfl g3 (by decide) (by decide) kf_X3_25 rfl ?_
      refine V_iload_n dX3_ringsUpTo_44 rfl rfl ?_
      refine V_idiv dX3_ringsUpTo_45 (q5 z1 z2) ?_
      refine V_tld dX3_ringsUpTo_46 (q6 z1 z2) ?_
      refine V_aload_n dX3_ringsUpTo_47 rfl rfl ?_
      refine V_iload_n dX3_ringsUpTo_48 rfl rfl ?_
      refine V_aload_n dX3_ringsUpTo_49 rfl rfl ?_
      refine V_iload_n dX3_ringsUpTo_50 rfl rfl ?_
      refine V_iload_n dX3_ringsUpTo_51 rfl rfl ?_
      exact V_sub (by exact (And.intro rfl (And.intro rfl (And.intro rfl (And.intro rfl True.intro))))) (q7 z1 z2)
theorem tX3_ringsUpTo_58 {G : gx} {b : bg} {h : ah} {Q : Option Value → ah → Prop} {x1 : Int32} {x2 : Int32} {x3 : Int32} {s0 : Int32} {s1 : Int32} {s2 : Int32} (q1 : V G mX3_ringsUpTo b 10 [some (.ref 5), some (.int x1), some (.int (s2 + (s1 * s0))), some (.int (x3 + (1 : Int32)))] [] h Q) : V G mX3_ringsUpTo b 58 [some (.ref 5), some (.int x1), some (.int x2), some (.int x3)] [.int s0, .int s1, .int s2] h Q := by
  refine V_imul dX3_ringsUpTo_58 ?_
  refine V_iadd dX3_ringsUpTo_59 ?_
  refine V_istore_n dX3_ringsUpTo_60 rfl (Nat.le_of_ble_eq_true rfl) ?_
  refine V_inc dX3_ringsUpTo_61 ic_1 rfl (Nat.le_of_ble_eq_true rfl) ?_
  refine V_goto (t := 10) dX3_ringsUpTo_64 (by decide) ?_
  exact V_sub (by exact (And.intro rfl (And.intro rfl (And.intro rfl (And.intro rfl True.intro))))) (q1)
theorem cX3_ringsUpTo_52 {G : gx} {d mc ms cc zz d2 mc2 ms2 : Nat} {L : List (Option Value)} {S : List Value} {h : ah} {Q Q2 : Option Value → ah → Prop} {k : Nat} {fs : List Value} {a0 a1 : Value} (hM : Ct G mX3_greatestRepeated d2 mc2 ms2 (.ref (k + 2) :: [a0, a1]) h Q2) (hc : h (k + 2) = (3, .inl fs)) (hdd : d2 < d ∧ d ≤ 9) (hrm : (S.map fun v => v.category).sum ≤ 8) (hf : cc + mc2 ≤ mc ∧ zz + ms2 ≤ ms) (kk : ∀ r h2, Q2 r h2 → V G mX3_ringsUpTo (d, mc, ms, cc + mc2, zz + ms2) 55 L (r.toList ++ S) h2 Q) : V G mX3_ringsUpTo (d, mc, ms, cc, zz) 52 L (a1 :: a0 :: .ref (k + 2) :: S) h Q := V_callV (ci := 3) (T := TX3) (N := 4) hM dX3_ringsUpTo_52 ⟨km_X3_34, ki_X3_greatestRepeated, ks_X3_greatestRepeated⟩ cw_X3_greatestRepeated rfl hc (by decide) hdd rfl rfl hrm hf kk
theorem cX3_ringsUpTo_55 {G : gx} {d mc ms cc zz d2 mc2 ms2 : Nat} {L : List (Option Value)} {S : List Value} {h : ah} {Q Q2 : Option Value → ah → Prop} {k : Nat} {fs : List Value} {a0 a1 : Value} (hM : Ct G mX3_wordsUpTo d2 mc2 ms2 (.ref (k + 2) :: [a0, a1]) h Q2) (hc : h (k + 2) = (3, .inl fs)) (hdd : d2 < d ∧ d ≤ 9) (hrm : (S.map fun v => v.category).sum ≤ 8) (hf : cc + mc2 ≤ mc ∧ zz + ms2 ≤ ms) (kk : ∀ r h2, Q2 r h2 → V G mX3_ringsUpTo (d, mc, ms, cc + mc2, zz + ms2) 58 L (r.toList ++ S) h2 Q) : V G mX3_ringsUpTo (d, mc, ms, cc, zz) 55 L (a1 :: a0 :: .ref (k + 2) :: S) h Q := V_callV (ci := 3) (T := TX3) (N := 4) hM dX3_ringsUpTo_55 ⟨km_X3_38, ki_X3_wordsUpTo, ks_X3_wordsUpTo⟩ cw_X3_wordsUpTo rfl hc (by decide) hdd rfl rfl hrm hf kk
theorem tX3_greatestRepeated_0 {G : gx} {b : bg} {h : ah} {Q : Option Value → ah → Prop} {x1 : Int32} {x2 : Int32} {wletters : Int32} {wlength : Int32} {wall : Int32} {whigh : Int32} {wpower : Nat → Int32} (g5 : h 5 = (3, .inl [.ref 3, .ref 6, .ref 7, .ref 8])) (g3 : h 3 = (6, .inl [.ref 4, .int wletters, .int wlength, .int wall, .int whigh])) (g4 : h 4 = (0, .inr (15, .inl wpower))) (q1 : vp_in (wlength - x1) 15) (q2 : ¬ (wpower (wlength - x1).toNatClampNeg) = 0) (q3 : V G mX3_greatestRepeated b 26 [some (.ref 5), some (.int x1), some (.int x2), some (.int (x2 / (wpower (wlength - x1).toNatClampNeg))), some (.int (0 : Int32)), some (.int (0 : Int32))] [] h Q) : V G mX3_greatestRepeated b 0 [some (.ref 5), some (.int x1), some (.int x2)] [] h Q := by
  refine V_iload_n dX3_greatestRepeated_0 rfl rfl ?_
  refine V_aload_n dX3_greatestRepeated_1 rfl rfl ?_
  refine V_get (ci := 3) (j := 0) (C0 := RX3) (T := TX3) (N := 4) dX3_greatestRepeated_2 rfl g5 (by decide) (by decide) kf_X3_21 rfl ?_
  refine V_getN (ci := 6) (j := 0) (C0 := RX6) (T := TX6) (N := 5) dX3_greatestRepeated_5 rfl g3 (by decide) (by decide) kf_X3_41 rfl ?_
  refine V_aload_n dX3_greatestRepeated_8 rfl rfl ?_
  refine V_get (ci := 3) (j := 0) (C0 := RX3) (T := TX3) (N := 4) dX3_greatestRepeated_9 rfl g5 (by decide) (by decide) kf_X3_21 rfl ?_
  refine V_getN (ci := 6) (j := 2) (C0 := RX6) (T := TX6) (N := 5) dX3_greatestRepeated_12 rfl g3 (by decide) (by decide) kf_X3_25 rfl ?_
  refine V_iload_n dX3_greatestRepeated_15 rfl rfl ?_
  refine V_isub dX3_greatestRepeated_16 ?_
  refine V_iald dX3_greatestRepeated_17 g4 (q1) ?_
  refine V_idiv dX3_greatestRepeated_18 (q2) ?_
  refine V_istore_n dX3_greatestRepeated_19 rfl (Nat.le_of_ble_eq_true rfl) ?_
  refine V_iconst dX3_greatestRepeated_20 ic_0 ?_
  refine V_istore dX3_greatestRepeated_21 (Nat.le_of_ble_eq_true rfl) ?_
  refine V_iconst dX3_greatestRepeated_23 ic_0 ?_
  refine V_istore dX3_greatestRepeated_24 (Nat.le_of_ble_eq_true rfl) ?_
  exact V_sub (by exact (And.intro rfl (And.intro rfl (And.intro rfl (And.intro rfl (And.intro rfl (And.intro rfl True.intro))))))) (q3)
theorem tX3_greatestRepeated_26 {G : gx} {b : bg} {h : ah} {Q : Option Value → ah → Prop} {x1 : Int32} {x2 : Int32} {x3 : Int32} {x4 : Int32} {x5 : Int32} {wletters : Int32} {wlength : Int32} {wall : Int32} {whigh : Int32} {wpower : Nat → Int32} (g5 : h 5 = (3, .inl [.ref 3, .ref 6, .ref 7, .ref 8])) (g3 : h 3 = (6, .inl [.ref 4, .int wletters, .int wlength, .int wall, .int whigh])) (g4 : h 4 = (0, .inr (15, .inl wpower))) (q1 : (wlength ≤ x5) → (x2 < x4) → Q (some (.int (x3 - (1 : Int32)))) h) (q2 : (wlength ≤ x5) → (¬ x2 < x4) → Q (some (.int x3)) h) (q3 : (¬ wlength ≤ x5) → vp_in x1 15) (q4 : (¬ wlength ≤ x5) → V G mX3_greatestRepeated b 26 [some (.ref 5), some (.int x1), some (.int x2), some (.int x3), some (.int ((x4 * (wpower x1.toNatClampNeg)) + x3)), some (.int (x5 + x1))] [] h Q) : V G mX3_greatestRepeated b 26 [some (.ref 5), some (.int x1), some (.int x2), some (.int x3), some (.int x4), some (.int x5)] [] h Q := by
  refine V_iload dX3_greatestRepeated_26 rfl ?_
  refine V_aload_n dX3_greatestRepeated_28 rfl rfl ?_
  refine V_get (ci := 3) (j := 0) (C0 := RX3) (T := TX3) (N := 4) dX3_greatestRepeated_29 rfl g5 (by decide) (by decide) kf_X3_21 rfl ?_
  refine V_getN (ci := 6) (j := 2) (C0 := RX6) (T := TX6) (N := 5) dX3_greatestRepeated_32 rfl g3 (by decide) (by decide) kf_X3_25 rfl ?_
  refine V_icmp_ge (t := 63) dX3_greatestRepeated_35 (by decide) (fun z1 => ?_) (fun z1 => ?_)
  ·
    refine V_iload dX3_greatestRepeated_63 rfl ?_
    refine V_iload_n dX3_greatestRepeated_65 rfl rfl ?_
    refine V_icmp_gt (t := 73) dX3_greatestRepeated_66 (by decide) (fun z2 => ?_) (fun z2 => ?_)
    ·
      refine V_iload_n dX3_greatestRepeated_73 rfl rfl ?_
      refine V_iconst dX3_greatestRepeated_74 ic_1 ?_
      refine V_isub dX3_greatestRepeated_75 ?_
      exact V_iret dX3_greatestRepeated_76 rfl (q1 z1 z2)
    ·
      refine V_iload_n dX3_greatestRepeated_69 rfl rfl ?_
      refine V_goto (t := 76) dX3_greatestRepeated_70 (by decide) ?_
      exact V_iret dX3_greatestRepeated_76 rfl (q2 z1 z2)
  ·
    refine V_iload dX3_greatestRepeated_38 rfl ?_
    refine V_aload_n dX3_greatestRepeated_40 rfl rfl ?_
    refine V_get (ci := 3) (j := 0) (C0 := RX3) (T := TX3) (N := 4) dX3_greatestRepeated_41 rfl g5 (by decide) (by decide) kf_X3_21 rfl ?_
    refine V_getN (ci := 6) (j := 0) (C0 := RX6) (T := TX6) (N := 5) dX3_greatestRepeated_44 rfl g3 (by decide) (by decide) kf_X3_41 rfl ?_
    refine V_iload_n dX3_greatestRepeated_47 rfl rfl ?_
    refine V_iald dX3_greatestRepeated_48 g4 (q3 z1) ?_
    refine V_imul dX3_greatestRepeated_49 ?_
    refine V_iload_n dX3_greatestRepeated_50 rfl rfl ?_
    refine V_iadd dX3_greatestRepeated_51 ?_
    refine V_istore dX3_greatestRepeated_52 (Nat.le_of_ble_eq_true rfl) ?_
    refine V_iload dX3_greatestRepeated_54 rfl ?_
    refine V_iload_n dX3_greatestRepeated_56 rfl rfl ?_
    refine V_iadd dX3_greatestRepeated_57 ?_
    refine V_istore dX3_greatestRepeated_58 (Nat.le_of_ble_eq_true rfl) ?_
    refine V_goto (t := 26) dX3_greatestRepeated_60 (by decide) ?_
    exact V_sub (by exact (And.intro rfl (And.intro rfl (And.intro rfl (And.intro rfl (And.intro rfl (And.intro rfl True.intro))))))) (q4 z1)
theorem tX3_leastOfRing_0 {G : gx} {b : bg} {h : ah} {Q : Option Value → ah → Prop} {x1 : Int32} {wletters : Int32} {wlength : Int32} {wall : Int32} {whigh : Int32} (g5 : h 5 = (3, .inl [.ref 3, .ref 6, .ref 7, .ref 8])) (g3 : h 3 = (6, .inl [.ref 4, .int wletters, .int wlength, .int wall, .int whigh])) (q1 : V G mX3_leastOfRing b 15 [some (.ref 5), some (.int x1), some (.int (0 : Int32)), some (.int (wall - (1 : Int32))), some (.int (0 : Int32))] [] h Q) : V G mX3_leastOfRing b 0 [some (.ref 5), some (.int x1)] [] h Q := by
  refine V_iconst dX3_leastOfRing_0 ic_0 ?_
  refine V_istore_n dX3_leastOfRing_1 rfl (Nat.le_of_ble_eq_true rfl) ?_
  refine V_aload_n dX3_leastOfRing_2 rfl rfl ?_
  refine V_get (ci := 3) (j := 0) (C0 := RX3) (T := TX3) (N := 4) dX3_leastOfRing_3 rfl g5 (by decide) (by decide) kf_X3_21 rfl ?_
  refine V_getN (ci := 6) (j := 3) (C0 := RX6) (T := TX6) (N := 5) dX3_leastOfRing_6 rfl g3 (by decide) (by decide) kf_X3_44 rfl ?_
  refine V_iconst dX3_leastOfRing_9 ic_1 ?_
  refine V_isub dX3_leastOfRing_10 ?_
  refine V_istore_n dX3_leastOfRing_11 rfl (Nat.le_of_ble_eq_true rfl) ?_
  refine V_iconst dX3_leastOfRing_12 ic_0 ?_
  refine V_istore dX3_leastOfRing_13 (Nat.le_of_ble_eq_true rfl) ?_
  exact V_sub (by exact (And.intro rfl (And.intro rfl (And.intro rfl (And.intro rfl (And.intro rfl True.intro)))))) (q1)
theorem tX3_leastOfRing_15 {G : gx} {b : bg} {h : ah} {Q : Option Value → ah → Prop} {x1 : Int32} {x2 : Int32} {x3 : Int32} {x4 : Int32} (q1 : ((20000 : Int32) ≤ x4) → Q (some (.int x2)) h) (q2 : (¬ (20000 : Int32) ≤ x4) → (x3 ≤ x2) → Q (some (.int x2)) h) (q3 : (¬ (20000 : Int32) ≤ x4) → (¬ x3 ≤ x2) → ¬ (2 : Int32) = 0) (q4 : (¬ (20000 : Int32) ≤ x4) → (¬ x3 ≤ x2) → V G mX3_leastOfRing b 38 [some (.ref 5), some (.int x1), some (.int x2), some (.int x3), some (.int x4), some (.int ((x2 + x3) / (2 : Int32)))] [.int ((x2 + x3) / (2 : Int32)), .ref 5] h Q) : V G mX3_leastOfRing b 15 [some (.ref 5), some (.int x1), some (.int x2), some (.int x3), some (.int x4)] [] h Q := by
  refine V_iload dX3_leastOfRing_15 rfl ?_
  refine V_sipush dX3_leastOfRing_17 sp_20000 ?_
  refine V_icmp_ge (t := 62) dX3_leastOfRing_20 (by decide) (fun z1 => ?_) (fun z1 => ?_)
  ·
    refine V_iload_n dX3_leastOfRing_62 rfl rfl ?_
    exact V_iret dX3_leastOfRing_63 rfl (q1 z1)
  ·
    refine V_iload_n dX3_leastOfRing_23 rfl rfl ?_
    refine V_iload_n dX3_leastOfRing_24 rfl rfl ?_
    refine V_icmp_ge (t := 62) dX3_leastOfRing_25 (by decide) (fun z2 => ?_) (fun z2 => ?_)
    ·
      refine V_iload_n dX3_leastOfRing_62 rfl rfl ?_
      exact V_iret dX3_leastOfRing_63 rfl (q2 z1 z2)
    ·
      refine V_iload_n dX3_leastOfRing_28 rfl rfl ?_
      refine V_iload_n dX3_leastOfRing_29 rfl rfl ?_
      refine V_iadd dX3_leastOfRing_30 ?_
      refine V_iconst dX3_leastOfRing_31 ic_2 ?_
      refine V_idiv dX3_leastOfRing_32 (q3 z1 z2) ?_
      refine V_istore dX3_leastOfRing_33 (Nat.le_of_ble_eq_true rfl) ?_
      refine V_aload_n dX3_leastOfRing_35 rfl rfl ?_
      refine V_iload dX3_leastOfRing_36 rfl ?_
      exact V_sub (by exact (And.intro rfl (And.intro rfl (And.intro rfl (And.intro rfl (And.intro rfl (And.intro rfl True.intro))))))) (q4 z1 z2)
theorem tX3_leastOfRing_41 {G : gx} {b : bg} {h : ah} {Q : Option Value → ah → Prop} {x1 : Int32} {x2 : Int32} {x3 : Int32} {x4 : Int32} {x5 : Int32} {s0 : Int32} (q1 : (s0 ≤ x1) → V G mX3_leastOfRing b 15 [some (.ref 5), some (.int x1), some (.int (x5 + (1 : Int32))), some (.int x3), some (.int (x4 + (1 : Int32)))] [] h Q) (q2 : (¬ s0 ≤ x1) → V G mX3_leastOfRing b 15 [some (.ref 5), some (.int x1), some (.int x2), some (.int x5), some (.int (x4 + (1 : Int32)))] [] h Q) : V G mX3_leastOfRing b 41 [some (.ref 5), some (.int x1), some (.int x2), some (.int x3), some (.int x4), some (.int x5)] [.int s0] h Q := by
  refine V_iload_n dX3_leastOfRing_41 rfl rfl ?_
  refine V_icmp_le (t := 51) dX3_leastOfRing_42 (by decide) (fun z1 => ?_) (fun z1 => ?_)
  ·
    refine V_iload dX3_leastOfRing_51 rfl ?_
    refine V_iconst dX3_leastOfRing_53 ic_1 ?_
    refine V_iadd dX3_leastOfRing_54 ?_
    refine V_istore_n dX3_leastOfRing_55 rfl (Nat.le_of_ble_eq_true rfl) ?_
    refine V_inc dX3_leastOfRing_56 ic_1 rfl (Nat.le_of_ble_eq_true rfl) ?_
    refine V_goto (t := 15) dX3_leastOfRing_59 (by decide) ?_
    exact V_sub (by exact (And.intro rfl (And.intro rfl (And.intro rfl (And.intro rfl (And.intro rfl True.intro)))))) (q1 z1)
  ·
    refine V_iload dX3_leastOfRing_45 rfl ?_
    refine V_istore_n dX3_leastOfRing_47 rfl (Nat.le_of_ble_eq_true rfl) ?_
    refine V_goto (t := 56) dX3_leastOfRing_48 (by decide) ?_
    refine V_inc dX3_leastOfRing_56 ic_1 rfl (Nat.le_of_ble_eq_true rfl) ?_
    refine V_goto (t := 15) dX3_leastOfRing_59 (by decide) ?_
    exact V_sub (by exact (And.intro rfl (And.intro rfl (And.intro rfl (And.intro rfl (And.intro rfl True.intro)))))) (q2 z1)
theorem cX3_leastOfRing_38 {G : gx} {d mc ms cc zz d2 mc2 ms2 : Nat} {L : List (Option Value)} {S : List Value} {h : ah} {Q Q2 : Option Value → ah → Prop} {k : Nat} {fs : List Value} {a0 : Value} (hM : Ct G mX3_ringsUpTo d2 mc2 ms2 (.ref (k + 2) :: [a0]) h Q2) (hc : h (k + 2) = (3, .inl fs)) (hdd : d2 < d ∧ d ≤ 9) (hrm : (S.map fun v => v.category).sum ≤ 8) (hf : cc + mc2 ≤ mc ∧ zz + ms2 ≤ ms) (kk : ∀ r h2, Q2 r h2 → V G mX3_leastOfRing (d, mc, ms, cc + mc2, zz + ms2) 41 L (r.toList ++ S) h2 Q) : V G mX3_leastOfRing (d, mc, ms, cc, zz) 38 L (a0 :: .ref (k + 2) :: S) h Q := V_callV (ci := 3) (T := TX3) (N := 4) hM dX3_leastOfRing_38 ⟨km_X3_47, ki_X3_ringsUpTo, ks_X3_ringsUpTo⟩ cw_X3_ringsUpTo rfl hc (by decide) hdd rfl rfl hrm hf kk
theorem tX3_wordsUpTo_0 {G : gx} {b : bg} {h : ah} {Q : Option Value → ah → Prop} {x1 : Int32} {x2 : Int32} (q1 : ((0 : Int32) ≤ x2) → V G mX3_wordsUpTo b 13 [some (.ref 5), some (.int x1), some (.int x2), some (.int x2), some (.int (x1 - (1 : Int32)))] [] h Q) (q2 : (¬ (0 : Int32) ≤ x2) → Q (some (.int (0 : Int32))) h) : V G mX3_wordsUpTo b 0 [some (.ref 5), some (.int x1), some (.int x2)] [] h Q := by
  refine V_iload_n dX3_wordsUpTo_0 rfl rfl ?_
  refine V_if_ge (t := 6) dX3_wordsUpTo_1 (by decide) (fun z1 => ?_) (fun z1 => ?_)
  ·
    refine V_iload_n dX3_wordsUpTo_6 rfl rfl ?_
    refine V_istore_n dX3_wordsUpTo_7 rfl (Nat.le_of_ble_eq_true rfl) ?_
    refine V_iload_n dX3_wordsUpTo_8 rfl rfl ?_
    refine V_iconst dX3_wordsUpTo_9 ic_1 ?_
    refine V_isub dX3_wordsUpTo_10 ?_
    refine V_istore dX3_wordsUpTo_11 (Nat.le_of_ble_eq_true rfl) ?_
    exact V_sub (by exact (And.intro rfl (And.intro rfl (And.intro rfl (And.intro rfl (And.intro rfl True.intro)))))) (q1 z1)
  ·
    refine V_iconst dX3_wordsUpTo_4 ic_0 ?_
    exact V_iret dX3_wordsUpTo_5 rfl (q2 z1)
theorem tX3_wordsUpTo_13 {G : gx} {b : bg} {h : ah} {Q : Option Value → ah → Prop} {x1 : Int32} {x2 : Int32} {x3 : Int32} {x4 : Int32} {wletters : Int32} {wlength : Int32} {wall : Int32} {whigh : Int32} {crow : Nat → Int32} (g5 : h 5 = (3, .inl [.ref 3, .ref 6, .ref 7, .ref 8])) (g3 : h 3 = (6, .inl [.ref 4, .int wletters, .int wlength, .int wall, .int whigh])) (g6 : h 6 = (0, .inr (14, .inl crow))) (q1 : (x4 < (0 : Int32)) → V G mX3_wordsUpTo b 52 [some (.ref 5), some (.int x1), some (.int x2), some (.int x3), some (.int x4)] [.int x1, .ref 5] h Q) (q2 : (¬ x4 < (0 : Int32)) → ¬ wletters = 0) (q3 : (¬ x4 < (0 : Int32)) → vp_in x4 14) (q4 : (¬ x4 < (0 : Int32)) → ¬ wletters = 0) (q5 : (¬ x4 < (0 : Int32)) → V G mX3_wordsUpTo b 13 [some (.ref 5), some (.int x1), some (.int x2), some (.int (x3 / wletters)), some (.int (x4 + (-1 : Int32)))] [] (va_up h 6 (0, .inr (14, .inl (upd crow x4.toNatClampNeg (x3 - x3 / wletters * wletters))))) Q) : V G mX3_wordsUpTo b 13 [some (.ref 5), some (.int x1), some (.int x2), some (.int x3), some (.int x4)] [] h Q := by
  refine V_iload dX3_wordsUpTo_13 rfl ?_
  refine V_if_lt (t := 50) dX3_wordsUpTo_15 (by decide) (fun z1 => ?_) (fun z1 => ?_)
  ·
    refine V_aload_n dX3_wordsUpTo_50 rfl rfl ?_
    refine V_iload_n dX3_wordsUpTo_51 rfl rfl ?_
    exact V_sub (by exact (And.intro rfl (And.intro rfl (And.intro rfl (And.intro rfl (And.intro rfl True.intro)))))) (q1 z1)
  ·
    refine V_aload_n dX3_wordsUpTo_18 rfl rfl ?_
    refine V_get (ci := 3) (j := 1) (C0 := RX3) (T := TX3) (N := 4) dX3_wordsUpTo_19 rfl g5 (by decide) (by decide) kf_X3_9 rfl ?_
    refine V_iload dX3_wordsUpTo_22 rfl ?_
    refine V_iload_n dX3_wordsUpTo_24 rfl rfl ?_
    refine V_aload_n dX3_wordsUpTo_25 rfl rfl ?_
    refine V_get (ci := 3) (j := 0) (C0 := RX3) (T := TX3) (N := 4) dX3_wordsUpTo_26 rfl g5 (by decide) (by decide) kf_X3_21 rfl ?_
    refine V_getN (ci := 6) (j := 1) (C0 := RX6) (T := TX6) (N := 5) dX3_wordsUpTo_29 rfl g3 (by decide) (by decide) kf_X3_51 rfl ?_
    refine V_irem dX3_wordsUpTo_32 (q2 z1) ?_
    refine V_iast dX3_wordsUpTo_33 g6 (q3 z1) ?_
    refine V_iload_n dX3_wordsUpTo_34 rfl rfl ?_
    refine V_aload_n dX3_wordsUpTo_35 rfl rfl ?_
    refine V_get (ci := 3) (j := 0) (C0 := RX3) (T := TX3) (N := 4) dX3_wordsUpTo_36 rfl g5 (by decide) (by decide) kf_X3_21 rfl ?_
    refine V_getN (ci := 6) (j := 1) (C0 := RX6) (T := TX6) (N := 5) dX3_wordsUpTo_39 rfl g3 (by decide) (by decide) kf_X3_51 rfl ?_
    refine V_idiv dX3_wordsUpTo_42 (q4 z1) ?_
    refine V_istore_n dX3_wordsUpTo_43 rfl (Nat.le_of_ble_eq_true rfl) ?_
    refine V_inc dX3_wordsUpTo_44 ic_m1 rfl (Nat.le_of_ble_eq_true rfl) ?_
    refine V_goto (t := 13) dX3_wordsUpTo_47 (by decide) ?_
    exact V_sub (by exact (And.intro rfl (And.intro rfl (And.intro rfl (And.intro rfl (And.intro rfl True.intro)))))) (q5 z1)
theorem tX3_wordsUpTo_55 {G : gx} {b : bg} {h : ah} {Q : Option Value → ah → Prop} {x1 : Int32} {x2 : Int32} {x3 : Int32} {x4 : Int32} {wletters : Int32} {wlength : Int32} {wall : Int32} {whigh : Int32} {wpower : Nat → Int32} (g5 : h 5 = (3, .inl [.ref 3, .ref 6, .ref 7, .ref 8])) (g3 : h 3 = (6, .inl [.ref 4, .int wletters, .int wlength, .int wall, .int whigh])) (g4 : h 4 = (0, .inr (15, .inl wpower))) (q1 : vp_in x1 15) (q2 : V G mX3_wordsUpTo b 66 [some (.ref 5), some (.int x1), some (.int x2), some (.int x3), some (.int x4)] [.int x1, .ref 5, .int (wpower x1.toNatClampNeg)] h Q) : V G mX3_wordsUpTo b 55 [some (.ref 5), some (.int x1), some (.int x2), some (.int x3), some (.int x4)] [] h Q := by
  refine V_aload_n dX3_wordsUpTo_55 rfl rfl ?_
  refine V_get (ci := 3) (j := 0) (C0 := RX3) (T := TX3) (N := 4) dX3_wordsUpTo_56 rfl g5 (by decide) (by decide) kf_X3_21 rfl ?_
  refine V_getN (ci := 6) (j := 0) (C0 := RX6) (T := TX6) (N := 5) dX3_wordsUpTo_59 rfl g3 (by decide) (by decide) kf_X3_41 rfl ?_
  refine V_iload_n dX3_wordsUpTo_62 rfl rfl ?_
  refine V_iald dX3_wordsUpTo_63 g4 (q1) ?_
  refine V_aload_n dX3_wordsUpTo_64 rfl rfl ?_
  refine V_iload_n dX3_wordsUpTo_65 rfl rfl ?_
  exact V_sub (by exact (And.intro rfl (And.intro rfl (And.intro rfl (And.intro rfl (And.intro rfl True.intro)))))) (q2)
theorem tX3_wordsUpTo_69 {G : gx} {b : bg} {h : ah} {Q : Option Value → ah → Prop} {x1 : Int32} {x2 : Int32} {x3 : Int32} {x4 : Int32} {s0 : Int32} {s1 : Int32} (q1 : Q (some (.int (s1 - s0))) h) : V G mX3_wordsUpTo b 69 [some (.ref 5), some (.int x1), some (.int x2), some (.int x3), some (.int x4)] [.int s0, .int s1] h Q := by
  refine V_isub dX3_wordsUpTo_69 ?_
  exact V_iret dX3_wordsUpTo_70 rfl (q1)
theorem cX3_wordsUpTo_52 {G : gx} {d mc ms cc zz d2 mc2 ms2 : Nat} {L : List (Option Value)} {S : List Value} {h : ah} {Q Q2 : Option Value → ah → Prop} {k : Nat} {fs : List Value} {a0 : Value} (hM : Ct G mX3_lowerToBeginning d2 mc2 ms2 (.ref (k + 2) :: [a0]) h Q2) (hc : h (k + 2) = (3, .inl fs)) (hdd : d2 < d ∧ d ≤ 9) (hrm : (S.map fun v => v.category).sum ≤ 8) (hf : cc + mc2 ≤ mc ∧ zz + ms2 ≤ ms) (kk : ∀ r h2, Q2 r h2 → V G mX3_wordsUpTo (d, mc, ms, cc + mc2, zz + ms2) 55 L (r.toList ++ S) h2 Q) : V G mX3_wordsUpTo (d, mc, ms, cc, zz) 52 L (a0 :: .ref (k + 2) :: S) h Q := V_callV (ci := 3) (T := TX3) (N := 4) hM dX3_wordsUpTo_52 ⟨km_X3_54, ki_X3_lowerToBeginning, ks_X3_lowerToBeginning⟩ cw_X3_lowerToBeginning rfl hc (by decide) hdd rfl rfl hrm hf kk
theorem cX3_wordsUpTo_66 {G : gx} {d mc ms cc zz d2 mc2 ms2 : Nat} {L : List (Option Value)} {S : List Value} {h : ah} {Q Q2 : Option Value → ah → Prop} {k : Nat} {fs : List Value} {a0 : Value} (hM : Ct G mX3_wordsAboveRow d2 mc2 ms2 (.ref (k + 2) :: [a0]) h Q2) (hc : h (k + 2) = (3, .inl fs)) (hdd : d2 < d ∧ d ≤ 9) (hrm : (S.map fun v => v.category).sum ≤ 8) (hf : cc + mc2 ≤ mc ∧ zz + ms2 ≤ ms) (kk : ∀ r h2, Q2 r h2 → V G mX3_wordsUpTo (d, mc, ms, cc + mc2, zz + ms2) 69 L (r.toList ++ S) h2 Q) : V G mX3_wordsUpTo (d, mc, ms, cc, zz) 66 L (a0 :: .ref (k + 2) :: S) h Q := V_callV (ci := 3) (T := TX3) (N := 4) hM dX3_wordsUpTo_66 ⟨km_X3_58, ki_X3_wordsAboveRow, ks_X3_wordsAboveRow⟩ cw_X3_wordsAboveRow rfl hc (by decide) hdd rfl rfl hrm hf kk
theorem tX3_lowerToBeginning_0 {G : gx} {b : bg} {h : ah} {Q : Option Value → ah → Prop} {x1 : Int32} (q1 : V G mX3_lowerToBeginning b 2 [some (.ref 5), some (.int x1), some (.int (0 : Int32))] [] h Q) : V G mX3_lowerToBeginning b 0 [some (.ref 5), some (.int x1)] [] h Q := by
  refine V_iconst dX3_lowerToBeginning_0 ic_0 ?_
  refine V_istore_n dX3_lowerToBeginning_1 rfl (Nat.le_of_ble_eq_true rfl) ?_
  exact V_sub (by exact (And.intro rfl (And.intro rfl (And.intro rfl True.intro)))) (q1)
theorem tX3_lowerToBeginning_2 {G : gx} {b : bg} {h : ah} {Q : Option Value → ah → Prop} {x1 : Int32} {x2 : Int32} (q1 : (x1 ≤ x2) → Q none h) (q2 : (¬ x1 ≤ x2) → V G mX3_lowerToBeginning b 9 [some (.ref 5), some (.int x1), some (.int x2)] [.int x1, .ref 5] h Q) : V G mX3_lowerToBeginning b 2 [some (.ref 5), some (.int x1), some (.int x2)] [] h Q := by
  refine V_iload_n dX3_lowerToBeginning_2 rfl rfl ?_
  refine V_iload_n dX3_lowerToBeginning_3 rfl rfl ?_
  refine V_icmp_ge (t := 83) dX3_lowerToBeginning_4 (by decide) (fun z1 => ?_) (fun z1 => ?_)
  ·
    exact V_vret dX3_lowerToBeginning_83 rfl (q1 z1)
  ·
    refine V_aload_n dX3_lowerToBeginning_7 rfl rfl ?_
    refine V_iload_n dX3_lowerToBeginning_8 rfl rfl ?_
    exact V_sub (by exact (And.intro rfl (And.intro rfl (And.intro rfl True.intro)))) (q2 z1)
theorem tX3_lowerToBeginning_24 {G : gx} {b : bg} {h : ah} {Q : Option Value → ah → Prop} {x1 : Int32} {x2 : Int32} {x3 : Int32} {x4 : Int32} {crow : Nat → Int32} {wletters : Int32} {wlength : Int32} {wall : Int32} {whigh : Int32} (g5 : h 5 = (3, .inl [.ref 3, .ref 6, .ref 7, .ref 8])) (g6 : h 6 = (0, .inr (14, .inl crow))) (g3 : h 3 = (6, .inl [.ref 4, .int wletters, .int wlength, .int wall, .int whigh])) (q1 : (x4 ≤ (0 : Int32)) → vp_in x4 14) (q2 : (x4 ≤ (0 : Int32)) → vp_in x4 14) (q3 : (x4 ≤ (0 : Int32)) → V G mX3_lowerToBeginning b 74 [some (.ref 5), some (.int x1), some (.int x2), some (.int x3), some (.int x4)] [.int (wletters - (1 : Int32)), .int x1, .int (x4 + (1 : Int32)), .ref 6] (va_up h 6 (0, .inr (14, .inl (upd crow x4.toNatClampNeg ((crow x4.toNatClampNeg) - (1 : Int32)))))) Q) (q4 : (¬ x4 ≤ (0 : Int32)) → vp_in x4 14) (q5 : (¬ x4 ≤ (0 : Int32)) → (¬ (crow x4.toNatClampNeg) = (0 : Int32)) → vp_in x4 14) (q6 : (¬ x4 ≤ (0 : Int32)) → (¬ (crow x4.toNatClampNeg) = (0 : Int32)) → vp_in x4 14) (q7 : (¬ x4 ≤ (0 : Int32)) → (¬ (crow x4.toNatClampNeg) = (0 : Int32)) → V G mX3_lowerToBeginning b 74 [some (.ref 5), some (.int x1), some (.int x2), some (.int x3), some (.int x4)] [.int (wletters - (1 : Int32)), .int x1, .int (x4 + (1 : Int32)), .ref 6] (va_up h 6 (0, .inr (14, .inl (upd crow x4.toNatClampNeg ((crow x4.toNatClampNeg) - (1 : Int32)))))) Q) (q8 : (¬ x4 ≤ (0 : Int32)) → ((crow x4.toNatClampNeg) = (0 : Int32)) → V G mX3_lowerToBeginning b 24 [some (.ref 5), some (.int x1), some (.int x2), some (.int x3), some (.int (x4 + (-1 : Int32)))] [] h Q) : V G mX3_lowerToBeginning b 24 [some (.ref 5), some (.int x1), some (.int x2), some (.int x3), some (.int x4)] [] h Q := by
  refine V_iload dX3_lowerToBeginning_24 rfl ?_
  refine V_if_le (t := 45) dX3_lowerToBeginning_26 (by decide) (fun z1 => ?_) (fun z1 => ?_)
  ·
    refine V_aload_n dX3_lowerToBeginning_45 rfl rfl ?_
    refine V_get (ci := 3) (j := 1) (C0 := RX3) (T := TX3) (N := 4) dX3_lowerToBeginning_46 rfl g5 (by decide) (by decide) kf_X3_9 rfl ?_
    refine V_iload dX3_lowerToBeginning_49 rfl ?_
    refine V_dup2 dX3_lowerToBeginning_51 rfl rfl ?_
    refine V_iald dX3_lowerToBeginning_52 g6 (q1 z1) ?_
    refine V_iconst dX3_lowerToBeginning_53 ic_1 ?_
    refine V_isub dX3_lowerToBeginning_54 ?_
    refine V_iast dX3_lowerToBeginning_55 g6 (q2 z1) ?_
    refine V_aload_n dX3_lowerToBeginning_56 rfl rfl ?_
    refine V_get (ci := 3) (j := 1) (C0 := RX3) (T := TX3) (N := 4) dX3_lowerToBeginning_57 rfl g5 (by decide) (by decide) kf_X3_9 rfl ?_
    refine V_iload dX3_lowerToBeginning_60 rfl ?_
    refine V_iconst dX3_lowerToBeginning_62 ic_1 ?_
    refine V_iadd dX3_lowerToBeginning_63 ?_
    refine V_iload_n dX3_lowerToBeginning_64 rfl rfl ?_
    refine V_aload_n dX3_lowerToBeginning_65 rfl rfl ?_
    refine V_get (ci := 3) (j := 0) (C0 := RX3) (T := TX3) (N := 4) dX3_lowerToBeginning_66 rfl g5 (by decide) (by decide) kf_X3_21 rfl ?_
    refine V_getN (ci := 6) (j := 1) (C0 := RX6) (T := TX6) (N := 5) dX3_lowerToBeginning_69 rfl g3 (by decide) (by decide) kf_X3_51 rfl ?_
    refine V_iconst dX3_lowerToBeginning_72 ic_1 ?_
    refine V_isub dX3_lowerToBeginning_73 ?_
    exact V_sub (by exact (And.intro rfl (And.intro rfl (And.intro rfl (And.intro rfl (And.intro rfl True.intro)))))) (q3 z1)
  ·
    refine V_aload_n dX3_lowerToBeginning_29 rfl rfl ?_
    refine V_get (ci := 3) (j := 1) (C0 := RX3) (T := TX3) (N := 4) dX3_lowerToBeginning_30 rfl g5 (by decide) (by decide) kf_X3_9 rfl ?_
    refine V_iload dX3_lowerToBeginning_33 rfl ?_
    refine V_iald dX3_lowerToBeginning_35 g6 (q4 z1) ?_
    refine V_if_ne (t := 45) dX3_lowerToBeginning_36 (by decide) (fun z2 => ?_) (fun z2 => ?_)
    ·
      refine V_aload_n dX3_lowerToBeginning_45 rfl rfl ?_
      refine V_get (ci := 3) (j := 1) (C0 := RX3) (T := TX3) (N := 4) dX3_lowerToBeginning_46 rfl g5 (by decide) (by decide) kf_X3_9 rfl ?_
      refine V_iload dX3_lowerToBeginning_49 rfl ?_
      refine V_dup2 dX3_lowerToBeginning_51 rfl rfl ?_
      refine V_iald dX3_lowerToBeginning_52 g6 (q5 z1 z2) ?_
      refine V_iconst dX3_lowerToBeginning_53 ic_1 ?_
      refine V_isub dX3_lowerToBeginning_54 ?_
      refine V_iast dX3_lowerToBeginning_55 g6 (q6 z1 z2) ?_
      refine V_aload_n dX3_lowerToBeginning_56 rfl rfl ?_
      refine V_get (ci := 3) (j := 1) (C0 := RX3) (T := TX3) (N := 4) dX3_lowerToBeginning_57 rfl g5 (by decide) (by decide) kf_X3_9 rfl ?_
      refine V_iload dX3_lowerToBeginning_60 rfl ?_
      refine V_iconst dX3_lowerToBeginning_62 ic_1 ?_
      refine V_iadd dX3_lowerToBeginning_63 ?_
      refine V_iload_n dX3_lowerToBeginning_64 rfl rfl ?_
      refine V_aload_n dX3_lowerToBeginning_65 rfl rfl ?_
      refine V_get (ci := 3) (j := 0) (C0 := RX3) (T := TX3) (N := 4) dX3_lowerToBeginning_66 rfl g5 (by decide) (by decide) kf_X3_21 rfl ?_
      refine V_getN (ci := 6) (j := 1) (C0 := RX6) (T := TX6) (N := 5) dX3_lowerToBeginning_69 rfl g3 (by decide) (by decide) kf_X3_51 rfl ?_
      refine V_iconst dX3_lowerToBeginning_72 ic_1 ?_
      refine V_isub dX3_lowerToBeginning_73 ?_
      exact V_sub (by exact (And.intro rfl (And.intro rfl (And.intro rfl (And.intro rfl (And.intro rfl True.intro)))))) (q7 z1 z2)
    ·
      refine V_inc dX3_lowerToBeginning_39 ic_m1 rfl (Nat.le_of_ble_eq_true rfl) ?_
      refine V_goto (t := 24) dX3_lowerToBeginning_42 (by decide) ?_
      exact V_sub (by exact (And.intro rfl (And.intro rfl (And.intro rfl (And.intro rfl (And.intro rfl True.intro)))))) (q8 z1 z2)
theorem tX3_lowerToBeginning_12 {G : gx} {b : bg} {h : ah} {Q : Option Value → ah → Prop} {x1 : Int32} {x2 : Int32} {s0 : Int32} (q1 : (¬ s0 = x1) → V G mX3_lowerToBeginning b 24 [some (.ref 5), some (.int x1), some (.int x2), some (.int s0), some (.int (s0 - (1 : Int32)))] [] h Q) (q2 : (s0 = x1) → Q none h) : V G mX3_lowerToBeginning b 12 [some (.ref 5), some (.int x1), some (.int x2)] [.int s0] h Q := by
  refine V_istore_n dX3_lowerToBeginning_12 rfl (Nat.le_of_ble_eq_true rfl) ?_
  refine V_iload_n dX3_lowerToBeginning_13 rfl rfl ?_
  refine V_iload_n dX3_lowerToBeginning_14 rfl rfl ?_
  refine V_icmp_ne (t := 19) dX3_lowerToBeginning_15 (by decide) (fun z1 => ?_) (fun z1 => ?_)
  ·
    refine V_iload_n dX3_lowerToBeginning_19 rfl rfl ?_
    refine V_iconst dX3_lowerToBeginning_20 ic_1 ?_
    refine V_isub dX3_lowerToBeginning_21 ?_
    refine V_istore dX3_lowerToBeginning_22 (Nat.le_of_ble_eq_true rfl) ?_
    exact V_sub (by exact (And.intro rfl (And.intro rfl (And.intro rfl (And.intro rfl (And.intro rfl True.intro)))))) (q1 z1)
  ·
    exact V_vret dX3_lowerToBeginning_18 rfl (q2 z1)
theorem tX3_lowerToBeginning_77 {G : gx} {b : bg} {h : ah} {Q : Option Value → ah → Prop} {x1 : Int32} {x2 : Int32} {x3 : Int32} {x4 : Int32} (q1 : V G mX3_lowerToBeginning b 2 [some (.ref 5), some (.int x1), some (.int (x2 + (1 : Int32)))] [] h Q) : V G mX3_lowerToBeginning b 77 [some (.ref 5), some (.int x1), some (.int x2), some (.int x3), some (.int x4)] [] h Q := by
  refine V_inc dX3_lowerToBeginning_77 ic_1 rfl (Nat.le_of_ble_eq_true rfl) ?_
  refine V_goto (t := 2) dX3_lowerToBeginning_80 (by decide) ?_
  exact V_sub (by exact (And.intro rfl (And.intro rfl (And.intro rfl True.intro)))) (q1)
theorem cX3_lowerToBeginning_9 {G : gx} {d mc ms cc zz d2 mc2 ms2 : Nat} {L : List (Option Value)} {S : List Value} {h : ah} {Q Q2 : Option Value → ah → Prop} {k : Nat} {fs : List Value} {a0 : Value} (hM : Ct G mX3_firstFault d2 mc2 ms2 (.ref (k + 2) :: [a0]) h Q2) (hc : h (k + 2) = (3, .inl fs)) (hdd : d2 < d ∧ d ≤ 9) (hrm : (S.map fun v => v.category).sum ≤ 8) (hf : cc + mc2 ≤ mc ∧ zz + ms2 ≤ ms) (kk : ∀ r h2, Q2 r h2 → V G mX3_lowerToBeginning (d, mc, ms, cc + mc2, zz + ms2) 12 L (r.toList ++ S) h2 Q) : V G mX3_lowerToBeginning (d, mc, ms, cc, zz) 9 L (a0 :: .ref (k + 2) :: S) h Q := V_callV (ci := 3) (T := TX3) (N := 4) hM dX3_lowerToBeginning_9 ⟨km_X3_61, ki_X3_firstFault, ks_X3_firstFault⟩ cw_X3_firstFault rfl hc (by decide) hdd rfl rfl hrm hf kk
theorem cX3_lowerToBeginning_74 {G : gx} {d mc ms cc zz d2 mc2 ms2 : Nat} {L : List (Option Value)} {S : List Value} {h : ah} {Q Q2 : Option Value → ah → Prop} {a0 a1 a2 a3 : Value} (hM : Ct G mJ7_fill_fda19 d2 mc2 ms2 [a0, a1, a2, a3] h Q2) (hdd : d2 < d ∧ d ≤ 9) (hrm : (S.map fun v => v.category).sum ≤ 8) (hf : cc + mc2 ≤ mc ∧ zz + ms2 ≤ ms) (kk : ∀ r h2, Q2 r h2 → V G mX3_lowerToBeginning (d, mc, ms, cc + mc2, zz + ms2) 77 L (r.toList ++ S) h2 Q) : V G mX3_lowerToBeginning (d, mc, ms, cc, zz) 74 L (a3 :: a2 :: a1 :: a0 :: S) h Q := V_callS hM dX3_lowerToBeginning_74 ⟨km_X3_64, kt_J7_fill_fda19⟩ cw_J7_fill_fda19 hdd rfl rfl hrm hf kk
theorem tX3_firstFault_0 {G : gx} {b : bg} {h : ah} {Q : Option Value → ah → Prop} {x1 : Int32} (q1 : V G mX3_firstFault b 4 [some (.ref 5), some (.int x1), some (.int (1 : Int32)), some (.int (1 : Int32))] [] h Q) : V G mX3_firstFault b 0 [some (.ref 5), some (.int x1)] [] h Q := by
  refine V_iconst dX3_firstFault_0 ic_1 ?_
  refine V_istore_n dX3_firstFault_1 rfl (Nat.le_of_ble_eq_true rfl) ?_
  refine V_iconst dX3_firstFault_2 ic_1 ?_
  refine V_istore_n dX3_firstFault_3 rfl (Nat.le_of_ble_eq_true rfl) ?_
  exact V_sub (by exact (And.intro rfl (And.intro rfl (And.intro rfl (And.intro rfl True.intro))))) (q1)
theorem tX3_firstFault_4 {G : gx} {b : bg} {h : ah} {Q : Option Value → ah → Prop} {x1 : Int32} {x2 : Int32} {x3 : Int32} {crow : Nat → Int32} (g5 : h 5 = (3, .inl [.ref 3, .ref 6, .ref 7, .ref 8])) (g6 : h 6 = (0, .inr (14, .inl crow))) (q1 : (x1 ≤ x3) → Q (some (.int x1)) h) (q2 : (¬ x1 ≤ x3) → vp_in x3 14) (q3 : (¬ x1 ≤ x3) → vp_in (x3 - x2) 14) (q4 : (¬ x1 ≤ x3) → ((crow (x3 - x2).toNatClampNeg) ≤ (crow x3.toNatClampNeg)) → vp_in x3 14) (q5 : (¬ x1 ≤ x3) → ((crow (x3 - x2).toNatClampNeg) ≤ (crow x3.toNatClampNeg)) → vp_in (x3 - x2) 14) (q6 : (¬ x1 ≤ x3) → ((crow (x3 - x2).toNatClampNeg) ≤ (crow x3.toNatClampNeg)) → ((crow x3.toNatClampNeg) ≤ (crow (x3 - x2).toNatClampNeg)) → V G mX3_firstFault b 4 [some (.ref 5), some (.int x1), some (.int x2), some (.int (x3 + (1 : Int32)))] [] h Q) (q7 : (¬ x1 ≤ x3) → ((crow (x3 - x2).toNatClampNeg) ≤ (crow x3.toNatClampNeg)) → (¬ (crow x3.toNatClampNeg) ≤ (crow (x3 - x2).toNatClampNeg)) → V G mX3_firstFault b 4 [some (.ref 5), some (.int x1), some (.int (x3 + (1 : Int32))), some (.int (x3 + (1 : Int32)))] [] h Q) (q8 : (¬ x1 ≤ x3) → (¬ (crow (x3 - x2).toNatClampNeg) ≤ (crow x3.toNatClampNeg)) → Q (some (.int x3)) h) : V G mX3_firstFault b 4 [some (.ref 5), some (.int x1), some (.int x2), some (.int x3)] [] h Q := by
  refine V_iload_n dX3_firstFault_4 rfl rfl ?_
  refine V_iload_n dX3_firstFault_5 rfl rfl ?_
  refine V_icmp_ge (t := 55) dX3_firstFault_6 (by decide) (fun z1 => ?_) (fun z1 => ?_)
  ·
    refine V_iload_n dX3_firstFault_55 rfl rfl ?_
    exact V_iret dX3_firstFault_56 rfl (q1 z1)
  ·
    refine V_aload_n dX3_firstFault_9 rfl rfl ?_
    refine V_get (ci := 3) (j := 1) (C0 := RX3) (T := TX3) (N := 4) dX3_firstFault_10 rfl g5 (by decide) (by decide) kf_X3_9 rfl ?_
    refine V_iload_n dX3_firstFault_13 rfl rfl ?_
    refine V_iald dX3_firstFault_14 g6 (q2 z1) ?_
    refine V_aload_n dX3_firstFault_15 rfl rfl ?_
    refine V_get (ci := 3) (j := 1) (C0 := RX3) (T := TX3) (N := 4) dX3_firstFault_16 rfl g5 (by decide) (by decide) kf_X3_9 rfl ?_
    refine V_iload_n dX3_firstFault_19 rfl rfl ?_
    refine V_iload_n dX3_firstFault_20 rfl rfl ?_
    refine V_isub dX3_firstFault_21 ?_
    refine V_iald dX3_firstFault_22 g6 (q3 z1) ?_
    refine V_icmp_ge (t := 28) dX3_firstFault_23 (by decide) (fun z2 => ?_) (fun z2 => ?_)
    ·
      refine V_aload_n dX3_firstFault_28 rfl rfl ?_
      refine V_get (ci := 3) (j := 1) (C0 := RX3) (T := TX3) (N := 4) dX3_firstFault_29 rfl g5 (by decide) (by decide) kf_X3_9 rfl ?_
      refine V_iload_n dX3_firstFault_32 rfl rfl ?_
      refine V_iald dX3_firstFault_33 g6 (q4 z1 z2) ?_
      refine V_aload_n dX3_firstFault_34 rfl rfl ?_
      refine V_get (ci := 3) (j := 1) (C0 := RX3) (T := TX3) (N := 4) dX3_firstFault_35 rfl g5 (by decide) (by decide) kf_X3_9 rfl ?_
      refine V_iload_n dX3_firstFault_38 rfl rfl ?_
      refine V_iload_n dX3_firstFault_39 rfl rfl ?_
      refine V_isub dX3_firstFault_40 ?_
      refine V_iald dX3_firstFault_41 g6 (q5 z1 z2) ?_
      refine V_icmp_le (t := 49) dX3_firstFault_42 (by decide) (fun z3 => ?_) (fun z3 => ?_)
      ·
        refine V_inc dX3_firstFault_49 ic_1 rfl (Nat.le_of_ble_eq_true rfl) ?_
        refine V_goto (t := 4) dX3_firstFault_52 (by decide) ?_
        exact V_sub (by exact (And.intro rfl (And.intro rfl (And.intro rfl (And.intro rfl True.intro))))) (q6 z1 z2 z3)
      ·
        refine V_iload_n dX3_firstFault_45 rfl rfl ?_
        refine V_iconst dX3_firstFault_46 ic_1 ?_
        refine V_iadd dX3_firstFault_47 ?_
        refine V_istore_n dX3_firstFault_48 rfl (Nat.le_of_ble_eq_true rfl) ?_
        refine V_inc dX3_firstFault_49 ic_1 rfl (Nat.le_of_ble_eq_true rfl) ?_
        refine V_goto (t := 4) dX3_firstFault_52 (by decide) ?_
        exact V_sub (by exact (And.intro rfl (And.intro rfl (And.intro rfl (And.intro rfl True.intro))))) (q7 z1 z2 z3)
    ·
      refine V_iload_n dX3_firstFault_26 rfl rfl ?_
      exact V_iret dX3_firstFault_27 rfl (q8 z1 z2)
theorem tX3_wordsAboveRow_0 {G : gx} {b : bg} {h : ah} {Q : Option Value → ah → Prop} {x1 : Int32} {cpath : Nat → Int32} (g5 : h 5 = (3, .inl [.ref 3, .ref 6, .ref 7, .ref 8])) (g7 : h 7 = (0, .inr (15, .inl cpath))) (q1 : vp_in (0 : Int32) 15) (q2 : V G mX3_wordsAboveRow b 11 [some (.ref 5), some (.int x1), some (.int (0 : Int32)), some (.int (1 : Int32))] [] (va_up h 7 (0, .inr (15, .inl (upd cpath (0 : Int32).toNatClampNeg (1 : Int32))))) Q) : V G mX3_wordsAboveRow b 0 [some (.ref 5), some (.int x1)] [] h Q := by
  refine V_iconst dX3_wordsAboveRow_0 ic_0 ?_
  refine V_istore_n dX3_wordsAboveRow_1 rfl (Nat.le_of_ble_eq_true rfl) ?_
  refine V_aload_n dX3_wordsAboveRow_2 rfl rfl ?_
  refine V_get (ci := 3) (j := 2) (C0 := RX3) (T := TX3) (N := 4) dX3_wordsAboveRow_3 rfl g5 (by decide) (by decide) kf_X3_15 rfl ?_
  refine V_iconst dX3_wordsAboveRow_6 ic_0 ?_
  refine V_iconst dX3_wordsAboveRow_7 ic_1 ?_
  refine V_iast dX3_wordsAboveRow_8 g7 (q1) ?_
  refine V_iconst dX3_wordsAboveRow_9 ic_1 ?_
  refine V_istore_n dX3_wordsAboveRow_10 rfl (Nat.le_of_ble_eq_true rfl) ?_
  exact V_sub (by exact (And.intro rfl (And.intro rfl (And.intro rfl (And.intro rfl True.intro))))) (q2)
theorem tX3_wordsAboveRow_11 {G : gx} {b : bg} {h : ah} {Q : Option Value → ah → Prop} {x1 : Int32} {x2 : Int32} {x3 : Int32} {cpath : Nat → Int32} (g5 : h 5 = (3, .inl [.ref 3, .ref 6, .ref 7, .ref 8])) (g7 : h 7 = (0, .inr (15, .inl cpath))) (q1 : (x1 < x3) → V G mX3_wordsAboveRow b 73 [some (.ref 5), some (.int x1), some (.int x2), some (.int (1 : Int32))] [] h Q) (q2 : (¬ x1 < x3) → vp_in x3 15) (q3 : (¬ x1 < x3) → V G mX3_wordsAboveRow b 26 [some (.ref 5), some (.int x1), some (.int x2), some (.int x3), some (.int (1 : Int32))] [] (va_up h 7 (0, .inr (15, .inl (upd cpath x3.toNatClampNeg (0 : Int32))))) Q) : V G mX3_wordsAboveRow b 11 [some (.ref 5), some (.int x1), some (.int x2), some (.int x3)] [] h Q := by
  refine V_iload_n dX3_wordsAboveRow_11 rfl rfl ?_
  refine V_iload_n dX3_wordsAboveRow_12 rfl rfl ?_
  refine V_icmp_gt (t := 71) dX3_wordsAboveRow_13 (by decide) (fun z1 => ?_) (fun z1 => ?_)
  ·
    refine V_iconst dX3_wordsAboveRow_71 ic_1 ?_
    refine V_istore_n dX3_wordsAboveRow_72 rfl (Nat.le_of_ble_eq_true rfl) ?_
    exact V_sub (by exact (And.intro rfl (And.intro rfl (And.intro rfl (And.intro rfl True.intro))))) (q1 z1)
  ·
    refine V_aload_n dX3_wordsAboveRow_16 rfl rfl ?_
    refine V_get (ci := 3) (j := 2) (C0 := RX3) (T := TX3) (N := 4) dX3_wordsAboveRow_17 rfl g5 (by decide) (by decide) kf_X3_15 rfl ?_
    refine V_iload_n dX3_wordsAboveRow_20 rfl rfl ?_
    refine V_iconst dX3_wordsAboveRow_21 ic_0 ?_
    refine V_iast dX3_wordsAboveRow_22 g7 (q2 z1) ?_
    refine V_iconst dX3_wordsAboveRow_23 ic_1 ?_
    refine V_istore dX3_wordsAboveRow_24 (Nat.le_of_ble_eq_true rfl) ?_
    exact V_sub (by exact (And.intro rfl (And.intro rfl (And.intro rfl (And.intro rfl (And.intro rfl True.intro)))))) (q3 z1)
theorem tX3_wordsAboveRow_26 {G : gx} {b : bg} {h : ah} {Q : Option Value → ah → Prop} {x1 : Int32} {x2 : Int32} {x3 : Int32} {x4 : Int32} {cpath : Nat → Int32} (g5 : h 5 = (3, .inl [.ref 3, .ref 6, .ref 7, .ref 8])) (g7 : h 7 = (0, .inr (15, .inl cpath))) (q1 : (x3 < x4) → V G mX3_wordsAboveRow b 11 [some (.ref 5), some (.int x1), some (.int x2), some (.int (x3 + (1 : Int32)))] [] h Q) (q2 : (¬ x3 < x4) → vp_in x3 15) (q3 : (¬ x3 < x4) → V G mX3_wordsAboveRow b 44 [some (.ref 5), some (.int x1), some (.int x2), some (.int x3), some (.int x4)] [.int (x4 - (1 : Int32)), .ref 5, .int (cpath x3.toNatClampNeg), .int x3, .ref 7] h Q) : V G mX3_wordsAboveRow b 26 [some (.ref 5), some (.int x1), some (.int x2), some (.int x3), some (.int x4)] [] h Q := by
  refine V_iload dX3_wordsAboveRow_26 rfl ?_
  refine V_iload_n dX3_wordsAboveRow_28 rfl rfl ?_
  refine V_icmp_gt (t := 65) dX3_wordsAboveRow_29 (by decide) (fun z1 => ?_) (fun z1 => ?_)
  ·
    refine V_inc dX3_wordsAboveRow_65 ic_1 rfl (Nat.le_of_ble_eq_true rfl) ?_
    refine V_goto (t := 11) dX3_wordsAboveRow_68 (by decide) ?_
    exact V_sub (by exact (And.intro rfl (And.intro rfl (And.intro rfl (And.intro rfl True.intro))))) (q1 z1)
  ·
    refine V_aload_n dX3_wordsAboveRow_32 rfl rfl ?_
    refine V_get (ci := 3) (j := 2) (C0 := RX3) (T := TX3) (N := 4) dX3_wordsAboveRow_33 rfl g5 (by decide) (by decide) kf_X3_15 rfl ?_
    refine V_iload_n dX3_wordsAboveRow_36 rfl rfl ?_
    refine V_dup2 dX3_wordsAboveRow_37 rfl rfl ?_
    refine V_iald dX3_wordsAboveRow_38 g7 (q2 z1) ?_
    refine V_aload_n dX3_wordsAboveRow_39 rfl rfl ?_
    refine V_iload dX3_wordsAboveRow_40 rfl ?_
    refine V_iconst dX3_wordsAboveRow_42 ic_1 ?_
    refine V_isub dX3_wordsAboveRow_43 ?_
    exact V_sub (by exact (And.intro rfl (And.intro rfl (And.intro rfl (And.intro rfl (And.intro rfl True.intro)))))) (q3 z1)
theorem tX3_wordsAboveRow_73 {G : gx} {b : bg} {h : ah} {Q : Option Value → ah → Prop} {x1 : Int32} {x2 : Int32} {x3 : Int32} (q1 : (x1 < x3) → Q (some (.int x2)) h) (q2 : (¬ x1 < x3) → V G mX3_wordsAboveRow b 84 [some (.ref 5), some (.int x1), some (.int x2), some (.int x3)] [.int (x3 - (1 : Int32)), .ref 5, .int x3, .int x2] h Q) : V G mX3_wordsAboveRow b 73 [some (.ref 5), some (.int x1), some (.int x2), some (.int x3)] [] h Q := by
  refine V_iload_n dX3_wordsAboveRow_73 rfl rfl ?_
  refine V_iload_n dX3_wordsAboveRow_74 rfl rfl ?_
  refine V_icmp_gt (t := 105) dX3_wordsAboveRow_75 (by decide) (fun z1 => ?_) (fun z1 => ?_)
  ·
    refine V_iload_n dX3_wordsAboveRow_105 rfl rfl ?_
    exact V_iret dX3_wordsAboveRow_106 rfl (q1 z1)
  ·
    refine V_iload_n dX3_wordsAboveRow_78 rfl rfl ?_
    refine V_iload_n dX3_wordsAboveRow_79 rfl rfl ?_
    refine V_aload_n dX3_wordsAboveRow_80 rfl rfl ?_
    refine V_iload_n dX3_wordsAboveRow_81 rfl rfl ?_
    refine V_iconst dX3_wordsAboveRow_82 ic_1 ?_
    refine V_isub dX3_wordsAboveRow_83 ?_
    exact V_sub (by exact (And.intro rfl (And.intro rfl (And.intro rfl (And.intro rfl True.intro))))) (q2 z1)
theorem tX3_wordsAboveRow_47 {G : gx} {b : bg} {h : ah} {Q : Option Value → ah → Prop} {x1 : Int32} {x2 : Int32} {x3 : Int32} {x4 : Int32} {s0 : Int32} {s1 : Int32} {s2 : Int32} {cpath : Nat → Int32} (g5 : h 5 = (3, .inl [.ref 3, .ref 6, .ref 7, .ref 8])) (g7 : h 7 = (0, .inr (15, .inl cpath))) (q1 : vp_in (x3 - x4) 15) (q2 : vp_in s2 15) (q3 : V G mX3_wordsAboveRow b 26 [some (.ref 5), some (.int x1), some (.int x2), some (.int x3), some (.int (x4 + (1 : Int32)))] [] (va_up h 7 (0, .inr (15, .inl (upd cpath s2.toNatClampNeg (s1 + (s0 * (cpath (x3 - x4).toNatClampNeg))))))) Q) : V G mX3_wordsAboveRow b 47 [some (.ref 5), some (.int x1), some (.int x2), some (.int x3), some (.int x4)] [.int s0, .int s1, .int s2, .ref 7] h Q := by
  refine V_aload_n dX3_wordsAboveRow_47 rfl rfl ?_
  refine V_get (ci := 3) (j := 2) (C0 := RX3) (T := TX3) (N := 4) dX3_wordsAboveRow_48 rfl g5 (by decide) (by decide) kf_X3_15 rfl ?_
  refine V_iload_n dX3_wordsAboveRow_51 rfl rfl ?_
  refine V_iload dX3_wordsAboveRow_52 rfl ?_
  refine V_isub dX3_wordsAboveRow_54 ?_
  refine V_iald dX3_wordsAboveRow_55 g7 (q1) ?_
  refine V_imul dX3_wordsAboveRow_56 ?_
  refine V_iadd dX3_wordsAboveRow_57 ?_
  refine V_iast dX3_wordsAboveRow_58 g7 (q2) ?_
  refine V_inc dX3_wordsAboveRow_59 ic_1 rfl (Nat.le_of_ble_eq_true rfl) ?_
  refine V_goto (t := 26) dX3_wordsAboveRow_62 (by decide) ?_
  exact V_sub (by exact (And.intro rfl (And.intro rfl (And.intro rfl (And.intro rfl (And.intro rfl True.intro)))))) (q3)
theorem tX3_wordsAboveRow_87 {G : gx} {b : bg} {h : ah} {Q : Option Value → ah → Prop} {x1 : Int32} {x2 : Int32} {x3 : Int32} {s0 : Int32} {s1 : Int32} {s2 : Int32} {cpath : Nat → Int32} (g5 : h 5 = (3, .inl [.ref 3, .ref 6, .ref 7, .ref 8])) (g7 : h 7 = (0, .inr (15, .inl cpath))) (q1 : vp_in (x1 - x3) 15) (q2 : V G mX3_wordsAboveRow b 73 [some (.ref 5), some (.int x1), some (.int (s2 + ((s1 * s0) * (cpath (x1 - x3).toNatClampNeg)))), some (.int (x3 + (1 : Int32)))] [] h Q) : V G mX3_wordsAboveRow b 87 [some (.ref 5), some (.int x1), some (.int x2), some (.int x3)] [.int s0, .int s1, .int s2] h Q := by
  refine V_imul dX3_wordsAboveRow_87 ?_
  refine V_aload_n dX3_wordsAboveRow_88 rfl rfl ?_
  refine V_get (ci := 3) (j := 2) (C0 := RX3) (T := TX3) (N := 4) dX3_wordsAboveRow_89 rfl g5 (by decide) (by decide) kf_X3_15 rfl ?_
  refine V_iload_n dX3_wordsAboveRow_92 rfl rfl ?_
  refine V_iload_n dX3_wordsAboveRow_93 rfl rfl ?_
  refine V_isub dX3_wordsAboveRow_94 ?_
  refine V_iald dX3_wordsAboveRow_95 g7 (q1) ?_
  refine V_imul dX3_wordsAboveRow_96 ?_
  refine V_iadd dX3_wordsAboveRow_97 ?_
  refine V_istore_n dX3_wordsAboveRow_98 rfl (Nat.le_of_ble_eq_true rfl) ?_
  refine V_inc dX3_wordsAboveRow_99 ic_1 rfl (Nat.le_of_ble_eq_true rfl) ?_
  refine V_goto (t := 73) dX3_wordsAboveRow_102 (by decide) ?_
  exact V_sub (by exact (And.intro rfl (And.intro rfl (And.intro rfl (And.intro rfl True.intro))))) (q2)
theorem cX3_wordsAboveRow_44 {G : gx} {d mc ms cc zz d2 mc2 ms2 : Nat} {L : List (Option Value)} {S : List Value} {h : ah} {Q Q2 : Option Value → ah → Prop} {k : Nat} {fs : List Value} {a0 : Value} (hM : Ct G mX3_greaterThan d2 mc2 ms2 (.ref (k + 2) :: [a0]) h Q2) (hc : h (k + 2) = (3, .inl fs)) (hdd : d2 < d ∧ d ≤ 9) (hrm : (S.map fun v => v.category).sum ≤ 8) (hf : cc + mc2 ≤ mc ∧ zz + ms2 ≤ ms) (kk : ∀ r h2, Q2 r h2 → V G mX3_wordsAboveRow (d, mc, ms, cc + mc2, zz + ms2) 47 L (r.toList ++ S) h2 Q) : V G mX3_wordsAboveRow (d, mc, ms, cc, zz) 44 L (a0 :: .ref (k + 2) :: S) h Q := V_callV (ci := 3) (T := TX3) (N := 4) hM dX3_wordsAboveRow_44 ⟨km_X3_70, ki_X3_greaterThan, ks_X3_greaterThan⟩ cw_X3_greaterThan rfl hc (by decide) hdd rfl rfl hrm hf kk
theorem cX3_wordsAboveRow_84 {G : gx} {d mc ms cc zz d2 mc2 ms2 : Nat} {L : List (Option Value)} {S : List Value} {h : ah} {Q Q2 : Option Value → ah → Prop} {k : Nat} {fs : List Value} {a0 : Value} (hM : Ct G mX3_greaterThan d2 mc2 ms2 (.ref (k + 2) :: [a0]) h Q2) (hc : h (k + 2) = (3, .inl fs)) (hdd : d2 < d ∧ d ≤ 9) (hrm : (S.map fun v => v.category).sum ≤ 8) (hf : cc + mc2 ≤ mc ∧ zz + ms2 ≤ ms) (kk : ∀ r h2, Q2 r h2 → V G mX3_wordsAboveRow (d, mc, ms, cc + mc2, zz + ms2) 87 L (r.toList ++ S) h2 Q) : V G mX3_wordsAboveRow (d, mc, ms, cc, zz) 84 L (a0 :: .ref (k + 2) :: S) h Q := V_callV (ci := 3) (T := TX3) (N := 4) hM dX3_wordsAboveRow_84 ⟨km_X3_70, ki_X3_greaterThan, ks_X3_greaterThan⟩ cw_X3_greaterThan rfl hc (by decide) hdd rfl rfl hrm hf kk
theorem tX3_greaterThan_0 {G : gx} {b : bg} {h : ah} {Q : Option Value → ah → Prop} {x1 : Int32} {wletters : Int32} {wlength : Int32} {wall : Int32} {whigh : Int32} {crow : Nat → Int32} (g5 : h 5 = (3, .inl [.ref 3, .ref 6, .ref 7, .ref 8])) (g3 : h 3 = (6, .inl [.ref 4, .int wletters, .int wlength, .int wall, .int whigh])) (g6 : h 6 = (0, .inr (14, .inl crow))) (q1 : vp_in x1 14) (q2 : Q (some (.int ((wletters - (1 : Int32)) - (crow x1.toNatClampNeg)))) h) : V G mX3_greaterThan b 0 [some (.ref 5), some (.int x1)] [] h Q := by
  refine V_aload_n dX3_greaterThan_0 rfl rfl ?_
  refine V_get (ci := 3) (j := 0) (C0 := RX3) (T := TX3) (N := 4) dX3_greaterThan_1 rfl g5 (by decide) (by decide) kf_X3_21 rfl ?_
  refine V_getN (ci := 6) (j := 1) (C0 := RX6) (T := TX6) (N := 5) dX3_greaterThan_4 rfl g3 (by decide) (by decide) kf_X3_51 rfl ?_
  refine V_iconst dX3_greaterThan_7 ic_1 ?_
  refine V_isub dX3_greaterThan_8 ?_
  refine V_aload_n dX3_greaterThan_9 rfl rfl ?_
  refine V_get (ci := 3) (j := 1) (C0 := RX3) (T := TX3) (N := 4) dX3_greaterThan_10 rfl g5 (by decide) (by decide) kf_X3_9 rfl ?_
  refine V_iload_n dX3_greaterThan_13 rfl rfl ?_
  refine V_iald dX3_greaterThan_14 g6 (q1) ?_
  refine V_isub dX3_greaterThan_15 ?_
  exact V_iret dX3_greaterThan_16 rfl (q2)
theorem tX3_takeAmounts_0 {G : gx} {b : bg} {h : ah} {Q : Option Value → ah → Prop} {x1 : Int32} {x2 : Int32} {x3 : Int32} {x4 : Int32} {x5 : Int32} {camt : Nat → Int32} (g5 : h 5 = (3, .inl [.ref 3, .ref 6, .ref 7, .ref 8])) (g8 : h 8 = (0, .inr (5, .inl camt))) (q1 : vp_in (0 : Int32) 5) (q2 : vp_in (1 : Int32) 5) (q3 : vp_in (2 : Int32) 5) (q4 : vp_in (3 : Int32) 5) (q5 : vp_in (4 : Int32) 5) (q6 : V G mX3_takeAmounts b 43 [some (.ref 5), some (.int x1), some (.int x2), some (.int x3), some (.int x4), some (.int x5), some (.int (0 : Int32)), some (.int (0 : Int32))] [] (va_up (va_up (va_up (va_up (va_up h 8 (0, .inr (5, .inl (upd camt (0 : Int32).toNatClampNeg x1)))) 8 (0, .inr (5, .inl (upd (upd camt (0 : Int32).toNatClampNeg x1) (1 : Int32).toNatClampNeg x2)))) 8 (0, .inr (5, .inl (upd (upd (upd camt (0 : Int32).toNatClampNeg x1) (1 : Int32).toNatClampNeg x2) (2 : Int32).toNatClampNeg x3)))) 8 (0, .inr (5, .inl (upd (upd (upd (upd camt (0 : Int32).toNatClampNeg x1) (1 : Int32).toNatClampNeg x2) (2 : Int32).toNatClampNeg x3) (3 : Int32).toNatClampNeg x4)))) 8 (0, .inr (5, .inl (upd (upd (upd (upd (upd camt (0 : Int32).toNatClampNeg x1) (1 : Int32).toNatClampNeg x2) (2 : Int32).toNatClampNeg x3) (3 : Int32).toNatClampNeg x4) (4 : Int32).toNatClampNeg x5)))) Q) : V G mX3_takeAmounts b 0 [some (.ref 5), some (.int x1), some (.int x2), some (.int x3), some (.int x4), some (.int x5)] [] h Q := by
  refine V_aload_n dX3_takeAmounts_0 rfl rfl ?_
  refine V_get (ci := 3) (j := 3) (C0 := RX3) (T := TX3) (N := 4) dX3_takeAmounts_1 rfl g5 (by decide) (by decide) kf_X3_18 rfl ?_
  refine V_iconst dX3_takeAmounts_4 ic_0 ?_
  refine V_iload_n dX3_takeAmounts_5 rfl rfl ?_
  refine V_iast dX3_takeAmounts_6 g8 (q1) ?_
  refine V_aload_n dX3_takeAmounts_7 rfl rfl ?_
  refine V_get (ci := 3) (j := 3) (C0 := RX3) (T := TX3) (N := 4) dX3_takeAmounts_8 rfl g5 (by decide) (by decide) kf_X3_18 rfl ?_
  refine V_iconst dX3_takeAmounts_11 ic_1 ?_
  refine V_iload_n dX3_takeAmounts_12 rfl rfl ?_
  refine V_iast dX3_takeAmounts_13 rfl (q2) ?_
  refine V_aload_n dX3_takeAmounts_14 rfl rfl ?_
  refine V_get (ci := 3) (j := 3) (C0 := RX3) (T := TX3) (N := 4) dX3_takeAmounts_15 rfl g5 (by decide) (by decide) kf_X3_18 rfl ?_
  refine V_iconst dX3_takeAmounts_18 ic_2 ?_
  refine V_iload_n dX3_takeAmounts_19 rfl rfl ?_
  refine V_iast dX3_takeAmounts_20 rfl (q3) ?_
  refine V_aload_n dX3_takeAmounts_21 rfl rfl ?_
  refine V_get (ci := 3) (j := 3) (C0 := RX3) (T := TX3) (N := 4) dX3_takeAmounts_22 rfl g5 (by decide) (by decide) kf_X3_18 rfl ?_
  refine V_iconst dX3_takeAmounts_25 ic_3 ?_
  refine V_iload dX3_takeAmounts_26 rfl ?_
  refine V_iast dX3_takeAmounts_28 rfl (q4) ?_
  refine V_aload_n dX3_takeAmounts_29 rfl rfl ?_
  refine V_get (ci := 3) (j := 3) (C0 := RX3) (T := TX3) (N := 4) dX3_takeAmounts_30 rfl g5 (by decide) (by decide) kf_X3_18 rfl ?_
  refine V_iconst dX3_takeAmounts_33 ic_4 ?_
  refine V_iload dX3_takeAmounts_34 rfl ?_
  refine V_iast dX3_takeAmounts_36 rfl (q5) ?_
  refine V_iconst dX3_takeAmounts_37 ic_0 ?_
  refine V_istore dX3_takeAmounts_38 (Nat.le_of_ble_eq_true rfl) ?_
  refine V_iconst dX3_takeAmounts_40 ic_0 ?_
  refine V_istore dX3_takeAmounts_41 (Nat.le_of_ble_eq_true rfl) ?_
  exact V_sub (by exact (And.intro rfl (And.intro rfl (And.intro rfl (And.intro rfl (And.intro rfl (And.intro rfl (And.intro rfl (And.intro rfl True.intro))))))))) (q6)
theorem tX3_takeAmounts_43 {G : gx} {b : bg} {h : ah} {Q : Option Value → ah → Prop} {x1 : Int32} {x2 : Int32} {x3 : Int32} {x4 : Int32} {x5 : Int32} {x6 : Int32} {x7 : Int32} {wletters : Int32} {wlength : Int32} {wall : Int32} {whigh : Int32} (g5 : h 5 = (3, .inl [.ref 3, .ref 6, .ref 7, .ref 8])) (g3 : h 3 = (6, .inl [.ref 4, .int wletters, .int wlength, .int wall, .int whigh])) (q1 : ((5 : Int32) ≤ x7) → (¬ x6 = wlength) → Q (some (.int (0 : Int32))) h) (q2 : ((5 : Int32) ≤ x7) → (x6 = wlength) → Q (some (.int (1 : Int32))) h) (q3 : (¬ (5 : Int32) ≤ x7) → V G mX3_takeAmounts b 55 [some (.ref 5), some (.int x1), some (.int x2), some (.int x3), some (.int x4), some (.int x5), some (.int x6), some (.int x7)] [.int x7, .ref 3] h Q) : V G mX3_takeAmounts b 43 [some (.ref 5), some (.int x1), some (.int x2), some (.int x3), some (.int x4), some (.int x5), some (.int x6), some (.int x7)] [] h Q := by
  refine V_iload dX3_takeAmounts_43 rfl ?_
  refine V_iconst dX3_takeAmounts_45 ic_5 ?_
  refine V_icmp_ge (t := 116) dX3_takeAmounts_46 (by decide) (fun z1 => ?_) (fun z1 => ?_)
  ·
    refine V_iload dX3_takeAmounts_116 rfl ?_
    refine V_aload_n dX3_takeAmounts_118 rfl rfl ?_
    refine V_get (ci := 3) (j := 0) (C0 := RX3) (T := TX3) (N := 4) dX3_takeAmounts_119 rfl g5 (by decide) (by decide) kf_X3_21 rfl ?_
    refine V_getN (ci := 6) (j := 2) (C0 := RX6) (T := TX6) (N := 5) dX3_takeAmounts_122 rfl g3 (by decide) (by decide) kf_X3_25 rfl ?_
    refine V_icmp_ne (t := 132) dX3_takeAmounts_125 (by decide) (fun z2 => ?_) (fun z2 => ?_)
    ·
      refine V_iconst dX3_takeAmounts_132 ic_0 ?_
      exact V_zret dX3_takeAmounts_133 rfl rfl (q1 z1 z2)
    ·
      refine V_iconst dX3_takeAmounts_128 ic_1 ?_
      refine V_goto (t := 133) dX3_takeAmounts_129 (by decide) ?_
      exact V_zret dX3_takeAmounts_133 rfl rfl (q2 z1 z2)
  ·
    refine V_aload_n dX3_takeAmounts_49 rfl rfl ?_
    refine V_get (ci := 3) (j := 0) (C0 := RX3) (T := TX3) (N := 4) dX3_takeAmounts_50 rfl g5 (by decide) (by decide) kf_X3_21 rfl ?_
    refine V_iload dX3_takeAmounts_53 rfl ?_
    exact V_sub (by exact (And.intro rfl (And.intro rfl (And.intro rfl (And.intro rfl (And.intro rfl (And.intro rfl (And.intro rfl (And.intro rfl True.intro))))))))) (q3 z1)
theorem tX3_takeAmounts_58 {G : gx} {b : bg} {h : ah} {Q : Option Value → ah → Prop} {x1 : Int32} {x2 : Int32} {x3 : Int32} {x4 : Int32} {x5 : Int32} {x6 : Int32} {x7 : Int32} {s0 : Int32} {camt : Nat → Int32} {wletters : Int32} {wlength : Int32} {wall : Int32} {whigh : Int32} (g5 : h 5 = (3, .inl [.ref 3, .ref 6, .ref 7, .ref 8])) (g8 : h 8 = (0, .inr (5, .inl camt))) (g3 : h 3 = (6, .inl [.ref 4, .int wletters, .int wlength, .int wall, .int whigh])) (q1 : (s0 = (0 : Int32)) → vp_in x7 5) (q2 : (s0 = (0 : Int32)) → ((camt x7.toNatClampNeg) < (0 : Int32)) → Q (some (.int (0 : Int32))) h) (q3 : (s0 = (0 : Int32)) → (¬ (camt x7.toNatClampNeg) < (0 : Int32)) → vp_in x7 5) (q4 : (s0 = (0 : Int32)) → (¬ (camt x7.toNatClampNeg) < (0 : Int32)) → ((camt x7.toNatClampNeg) ≤ (0 : Int32)) → vp_in x7 5) (q5 : (s0 = (0 : Int32)) → (¬ (camt x7.toNatClampNeg) < (0 : Int32)) → ((camt x7.toNatClampNeg) ≤ (0 : Int32)) → V G mX3_takeAmounts b 43 [some (.ref 5), some (.int x1), some (.int x2), some (.int x3), some (.int x4), some (.int x5), some (.int (x6 + (camt x7.toNatClampNeg))), some (.int (x7 + (1 : Int32)))] [] h Q) (q6 : (s0 = (0 : Int32)) → (¬ (camt x7.toNatClampNeg) < (0 : Int32)) → (¬ (camt x7.toNatClampNeg) ≤ (0 : Int32)) → Q (some (.int (0 : Int32))) h) (q7 : (¬ s0 = (0 : Int32)) → vp_in x7 5) (q8 : (¬ s0 = (0 : Int32)) → ((camt x7.toNatClampNeg) < (0 : Int32)) → Q (some (.int (0 : Int32))) h) (q9 : (¬ s0 = (0 : Int32)) → (¬ (camt x7.toNatClampNeg) < (0 : Int32)) → vp_in x7 5) (q10 : (¬ s0 = (0 : Int32)) → (¬ (camt x7.toNatClampNeg) < (0 : Int32)) → ((camt x7.toNatClampNeg) ≤ wlength) → vp_in x7 5) (q11 : (¬ s0 = (0 : Int32)) → (¬ (camt x7.toNatClampNeg) < (0 : Int32)) → ((camt x7.toNatClampNeg) ≤ wlength) → V G mX3_takeAmounts b 43 [some (.ref 5), some (.int x1), some (.int x2), some (.int x3), some (.int x4), some (.int x5), some (.int (x6 + (camt x7.toNatClampNeg))), some (.int (x7 + (1 : Int32)))] [] h Q) (q12 : (¬ s0 = (0 : Int32)) → (¬ (camt x7.toNatClampNeg) < (0 : Int32)) → (¬ (camt x7.toNatClampNeg) ≤ wlength) → Q (some (.int (0 : Int32))) h) : V G mX3_takeAmounts b 58 [some (.ref 5), some (.int x1), some (.int x2), some (.int x3), some (.int x4), some (.int x5), some (.int x6), some (.int x7)] [.int s0] h Q := by
  refine V_if_eq (t := 71) dX3_takeAmounts_58 (by decide) (fun z1 => ?_) (fun z1 => ?_)
  ·
    refine V_iconst dX3_takeAmounts_71 ic_0 ?_
    refine V_istore dX3_takeAmounts_72 (Nat.le_of_ble_eq_true rfl) ?_
    refine V_aload_n dX3_takeAmounts_74 rfl rfl ?_
    refine V_get (ci := 3) (j := 3) (C0 := RX3) (T := TX3) (N := 4) dX3_takeAmounts_75 rfl g5 (by decide) (by decide) kf_X3_18 rfl ?_
    refine V_iload dX3_takeAmounts_78 rfl ?_
    refine V_iald dX3_takeAmounts_80 g8 (q1 z1) ?_
    refine V_if_lt (t := 96) dX3_takeAmounts_81 (by decide) (fun z2 => ?_) (fun z2 => ?_)
    ·
      refine V_iconst dX3_takeAmounts_96 ic_0 ?_
      exact V_zret dX3_takeAmounts_97 rfl rfl (q2 z1 z2)
    ·
      refine V_aload_n dX3_takeAmounts_84 rfl rfl ?_
      refine V_get (ci := 3) (j := 3) (C0 := RX3) (T := TX3) (N := 4) dX3_takeAmounts_85 rfl g5 (by decide) (by decide) kf_X3_18 rfl ?_
      refine V_iload dX3_takeAmounts_88 rfl ?_
      refine V_iald dX3_takeAmounts_90 g8 (q3 z1 z2) ?_
      refine V_iload dX3_takeAmounts_91 rfl ?_
      refine V_icmp_le (t := 98) dX3_takeAmounts_93 (by decide) (fun z3 => ?_) (fun z3 => ?_)
      ·
        refine V_iload dX3_takeAmounts_98 rfl ?_
        refine V_aload_n dX3_takeAmounts_100 rfl rfl ?_
        refine V_get (ci := 3) (j := 3) (C0 := RX3) (T := TX3) (N := 4) dX3_takeAmounts_101 rfl g5 (by decide) (by decide) kf_X3_18 rfl ?_
        refine V_iload dX3_takeAmounts_104 rfl ?_
        refine V_iald dX3_takeAmounts_106 g8 (q4 z1 z2 z3) ?_
        refine V_iadd dX3_takeAmounts_107 ?_
        refine V_istore dX3_takeAmounts_108 (Nat.le_of_ble_eq_true rfl) ?_
        refine V_inc dX3_takeAmounts_110 ic_1 rfl (Nat.le_of_ble_eq_true rfl) ?_
        refine V_goto (t := 43) dX3_takeAmounts_113 (by decide) ?_
        exact V_sub (by exact (And.intro rfl (And.intro rfl (And.intro rfl (And.intro rfl (And.intro rfl (And.intro rfl (And.intro rfl (And.intro rfl True.intro))))))))) (q5 z1 z2 z3)
      ·
        refine V_iconst dX3_takeAmounts_96 ic_0 ?_
        exact V_zret dX3_takeAmounts_97 rfl rfl (q6 z1 z2 z3)
  ·
    refine V_aload_n dX3_takeAmounts_61 rfl rfl ?_
    refine V_get (ci := 3) (j := 0) (C0 := RX3) (T := TX3) (N := 4) dX3_takeAmounts_62 rfl g5 (by decide) (by decide) kf_X3_21 rfl ?_
    refine V_getN (ci := 6) (j := 2) (C0 := RX6) (T := TX6) (N := 5) dX3_takeAmounts_65 rfl g3 (by decide) (by decide) kf_X3_25 rfl ?_
    refine V_goto (t := 72) dX3_takeAmounts_68 (by decide) ?_
    refine V_istore dX3_takeAmounts_72 (Nat.le_of_ble_eq_true rfl) ?_
    refine V_aload_n dX3_takeAmounts_74 rfl rfl ?_
    refine V_get (ci := 3) (j := 3) (C0 := RX3) (T := TX3) (N := 4) dX3_takeAmounts_75 rfl g5 (by decide) (by decide) kf_X3_18 rfl ?_
    refine V_iload dX3_takeAmounts_78 rfl ?_
    refine V_iald dX3_takeAmounts_80 g8 (q7 z1) ?_
    refine V_if_lt (t := 96) dX3_takeAmounts_81 (by decide) (fun z4 => ?_) (fun z4 => ?_)
    ·
      refine V_iconst dX3_takeAmounts_96 ic_0 ?_
      exact V_zret dX3_takeAmounts_97 rfl rfl (q8 z1 z4)
    ·
      refine V_aload_n dX3_takeAmounts_84 rfl rfl ?_
      refine V_get (ci := 3) (j := 3) (C0 := RX3) (T := TX3) (N := 4) dX3_takeAmounts_85 rfl g5 (by decide) (by decide) kf_X3_18 rfl ?_
      refine V_iload dX3_takeAmounts_88 rfl ?_
      refine V_iald dX3_takeAmounts_90 g8 (q9 z1 z4) ?_
      refine V_iload dX3_takeAmounts_91 rfl ?_
      refine V_icmp_le (t := 98) dX3_takeAmounts_93 (by decide) (fun z5 => ?_) (fun z5 => ?_)
      ·
        refine V_iload dX3_takeAmounts_98 rfl ?_
        refine V_aload_n dX3_takeAmounts_100 rfl rfl ?_
        refine V_get (ci := 3) (j := 3) (C0 := RX3) (T := TX3) (N := 4) dX3_takeAmounts_101 rfl g5 (by decide) (by decide) kf_X3_18 rfl ?_
        refine V_iload dX3_takeAmounts_104 rfl ?_
        refine V_iald dX3_takeAmounts_106 g8 (q10 z1 z4 z5) ?_
        refine V_iadd dX3_takeAmounts_107 ?_
        refine V_istore dX3_takeAmounts_108 (Nat.le_of_ble_eq_true rfl) ?_
        refine V_inc dX3_takeAmounts_110 ic_1 rfl (Nat.le_of_ble_eq_true rfl) ?_
        refine V_goto (t := 43) dX3_takeAmounts_113 (by decide) ?_
        exact V_sub (by exact (And.intro rfl (And.intro rfl (And.intro rfl (And.intro rfl (And.intro rfl (And.intro rfl (And.intro rfl (And.intro rfl True.intro))))))))) (q11 z1 z4 z5)
      ·
        refine V_iconst dX3_takeAmounts_96 ic_0 ?_
        exact V_zret dX3_takeAmounts_97 rfl rfl (q12 z1 z4 z5)
theorem cX3_takeAmounts_55 {G : gx} {d mc ms cc zz d2 mc2 ms2 : Nat} {L : List (Option Value)} {S : List Value} {h : ah} {Q Q2 : Option Value → ah → Prop} {k : Nat} {fs : List Value} {a0 : Value} (hM : Ct G mX6_isLetter d2 mc2 ms2 (.ref (k + 2) :: [a0]) h Q2) (hc : h (k + 2) = (6, .inl fs)) (hdd : d2 < d ∧ d ≤ 9) (hrm : (S.map fun v => v.category).sum ≤ 8) (hf : cc + mc2 ≤ mc ∧ zz + ms2 ≤ ms) (kk : ∀ r h2, Q2 r h2 → V G mX3_takeAmounts (d, mc, ms, cc + mc2, zz + ms2) 58 L (r.toList ++ S) h2 Q) : V G mX3_takeAmounts (d, mc, ms, cc, zz) 55 L (a0 :: .ref (k + 2) :: S) h Q := V_callVN (ci := 6) (T := TX6) (N := 5) hM dX3_takeAmounts_55 ⟨km_X3_73, ki_X6_isLetter, ks_X6_isLetter⟩ cw_X6_isLetter rfl hc (by decide) hdd rfl rfl hrm hf kk
theorem tX3_ringsOfAmounts_0 {G : gx} {b : bg} {h : ah} {Q : Option Value → ah → Prop} (q1 : V G mX3_ringsOfAmounts b 4 [some (.ref 5), some (.long (0 : Int64)), none, some (.int (1 : Int32))] [] h Q) : V G mX3_ringsOfAmounts b 0 [some (.ref 5)] [] h Q := by
  refine V_lconst dX3_ringsOfAmounts_0 lc_0 ?_
  refine V_lstore_n dX3_ringsOfAmounts_1 rfl (Nat.le_of_ble_eq_true rfl) ?_
  refine V_iconst dX3_ringsOfAmounts_2 ic_1 ?_
  refine V_istore_n dX3_ringsOfAmounts_3 rfl (Nat.le_of_ble_eq_true rfl) ?_
  exact V_sub (by exact (And.intro rfl (And.intro rfl (And.intro rfl True.intro)))) (q1)
theorem tX3_ringsOfAmounts_4 {G : gx} {b : bg} {h : ah} {Q : Option Value → ah → Prop} {y1 : Int64} {x3 : Int32} {wletters : Int32} {wlength : Int32} {wall : Int32} {whigh : Int32} (g5 : h 5 = (3, .inl [.ref 3, .ref 6, .ref 7, .ref 8])) (g3 : h 3 = (6, .inl [.ref 4, .int wletters, .int wlength, .int wall, .int whigh])) (q1 : (wlength < x3) → ¬ wlength.toInt64 = 0) (q2 : (wlength < x3) → Q (some (.int ((y1 / wlength.toInt64).toInt32))) h) (q3 : (¬ wlength < x3) → V G mX3_ringsOfAmounts b 17 [some (.ref 5), some (.long y1), none, some (.int x3)] [.int x3, .ref 5] h Q) : V G mX3_ringsOfAmounts b 4 [some (.ref 5), some (.long y1), none, some (.int x3)] [] h Q := by
  refine V_iload_n dX3_ringsOfAmounts_4 rfl rfl ?_
  refine V_aload_n dX3_ringsOfAmounts_5 rfl rfl ?_
  refine V_get (ci := 3) (j := 0) (C0 := RX3) (T := TX3) (N := 4) dX3_ringsOfAmounts_6 rfl g5 (by decide) (by decide) kf_X3_21 rfl ?_
  refine V_getN (ci := 6) (j := 2) (C0 := RX6) (T := TX6) (N := 5) dX3_ringsOfAmounts_9 rfl g3 (by decide) (by decide) kf_X3_25 rfl ?_
  refine V_icmp_gt (t := 44) dX3_ringsOfAmounts_12 (by decide) (fun z1 => ?_) (fun z1 => ?_)
  ·
    refine V_lload_n dX3_ringsOfAmounts_44 rfl rfl ?_
    refine V_aload_n dX3_ringsOfAmounts_45 rfl rfl ?_
    refine V_get (ci := 3) (j := 0) (C0 := RX3) (T := TX3) (N := 4) dX3_ringsOfAmounts_46 rfl g5 (by decide) (by decide) kf_X3_21 rfl ?_
    refine V_getN (ci := 6) (j := 2) (C0 := RX6) (T := TX6) (N := 5) dX3_ringsOfAmounts_49 rfl g3 (by decide) (by decide) kf_X3_25 rfl ?_
    refine V_i2l dX3_ringsOfAmounts_52 ?_
    refine V_ldiv dX3_ringsOfAmounts_53 (q1 z1) ?_
    refine V_l2i dX3_ringsOfAmounts_54 ?_
    exact V_iret dX3_ringsOfAmounts_55 rfl (q2 z1)
  ·
    refine V_aload_n dX3_ringsOfAmounts_15 rfl rfl ?_
    refine V_iload_n dX3_ringsOfAmounts_16 rfl rfl ?_
    exact V_sub (by exact (And.intro rfl (And.intro rfl (And.intro rfl True.intro)))) (q3 z1)
theorem tX3_ringsOfAmounts_20 {G : gx} {b : bg} {h : ah} {Q : Option Value → ah → Prop} {y1 : Int64} {x3 : Int32} {s0 : Int32} (q1 : (s0 = (0 : Int32)) → V G mX3_ringsOfAmounts b 4 [some (.ref 5), some (.long y1), none, some (.int (x3 + (1 : Int32)))] [] h Q) (q2 : (¬ s0 = (0 : Int32)) → vp_in x3 15) (q3 : (¬ s0 = (0 : Int32)) → V G mX3_ringsOfAmounts b 32 [some (.ref 5), some (.long y1), none, some (.int x3)] [.int x3, .ref 5, .long ((totF x3.toNatClampNeg).toInt64), .long y1] h Q) : V G mX3_ringsOfAmounts b 20 [some (.ref 5), some (.long y1), none, some (.int x3)] [.int s0] h Q := by
  refine V_if_eq (t := 38) dX3_ringsOfAmounts_20 (by decide) (fun z1 => ?_) (fun z1 => ?_)
  ·
    refine V_inc dX3_ringsOfAmounts_38 ic_1 rfl (Nat.le_of_ble_eq_true rfl) ?_
    refine V_goto (t := 4) dX3_ringsOfAmounts_41 (by decide) ?_
    exact V_sub (by exact (And.intro rfl (And.intro rfl (And.intro rfl True.intro)))) (q1 z1)
  ·
    refine V_lload_n dX3_ringsOfAmounts_23 rfl rfl ?_
    refine V_gets dX3_ringsOfAmounts_24 kf_X3_31 ?_
    refine V_iload_n dX3_ringsOfAmounts_27 rfl rfl ?_
    refine V_tld dX3_ringsOfAmounts_28 (q2 z1) ?_
    refine V_i2l dX3_ringsOfAmounts_29 ?_
    refine V_aload_n dX3_ringsOfAmounts_30 rfl rfl ?_
    refine V_iload_n dX3_ringsOfAmounts_31 rfl rfl ?_
    exact V_sub (by exact (And.intro rfl (And.intro rfl (And.intro rfl True.intro)))) (q3 z1)
theorem tX3_ringsOfAmounts_35 {G : gx} {b : bg} {h : ah} {Q : Option Value → ah → Prop} {y1 : Int64} {x3 : Int32} {s0 : Int64} {s1 : Int64} {s2 : Int64} (q1 : V G mX3_ringsOfAmounts b 4 [some (.ref 5), some (.long (s2 + (s1 * s0))), none, some (.int (x3 + (1 : Int32)))] [] h Q) : V G mX3_ringsOfAmounts b 35 [some (.ref 5), some (.long y1), none, some (.int x3)] [.long s0, .long s1, .long s2] h Q := by
  refine V_lmul dX3_ringsOfAmounts_35 ?_
  refine V_ladd dX3_ringsOfAmounts_36 ?_
  refine V_lstore_n dX3_ringsOfAmounts_37 rfl (Nat.le_of_ble_eq_true rfl) ?_
  refine V_inc dX3_ringsOfAmounts_38 ic_1 rfl (Nat.le_of_ble_eq_true rfl) ?_
  refine V_goto (t := 4) dX3_ringsOfAmounts_41 (by decide) ?_
  exact V_sub (by exact (And.intro rfl (And.intro rfl (And.intro rfl True.intro)))) (q1)
theorem cX3_ringsOfAmounts_17 {G : gx} {d mc ms cc zz d2 mc2 ms2 : Nat} {L : List (Option Value)} {S : List Value} {h : ah} {Q Q2 : Option Value → ah → Prop} {k : Nat} {fs : List Value} {a0 : Value} (hM : Ct G mX3_allDivisible d2 mc2 ms2 (.ref (k + 2) :: [a0]) h Q2) (hc : h (k + 2) = (3, .inl fs)) (hdd : d2 < d ∧ d ≤ 9) (hrm : (S.map fun v => v.category).sum ≤ 8) (hf : cc + mc2 ≤ mc ∧ zz + ms2 ≤ ms) (kk : ∀ r h2, Q2 r h2 → V G mX3_ringsOfAmounts (d, mc, ms, cc + mc2, zz + ms2) 20 L (r.toList ++ S) h2 Q) : V G mX3_ringsOfAmounts (d, mc, ms, cc, zz) 17 L (a0 :: .ref (k + 2) :: S) h Q := V_callV (ci := 3) (T := TX3) (N := 4) hM dX3_ringsOfAmounts_17 ⟨km_X3_77, ki_X3_allDivisible, ks_X3_allDivisible⟩ cw_X3_allDivisible rfl hc (by decide) hdd rfl rfl hrm hf kk
theorem cX3_ringsOfAmounts_32 {G : gx} {d mc ms cc zz d2 mc2 ms2 : Nat} {L : List (Option Value)} {S : List Value} {h : ah} {Q Q2 : Option Value → ah → Prop} {k : Nat} {fs : List Value} {a0 : Value} (hM : Ct G mX3_arrangements d2 mc2 ms2 (.ref (k + 2) :: [a0]) h Q2) (hc : h (k + 2) = (3, .inl fs)) (hdd : d2 < d ∧ d ≤ 9) (hrm : (S.map fun v => v.category).sum ≤ 8) (hf : cc + mc2 ≤ mc ∧ zz + ms2 ≤ ms) (kk : ∀ r h2, Q2 r h2 → V G mX3_ringsOfAmounts (d, mc, ms, cc + mc2, zz + ms2) 35 L (r.toList ++ S) h2 Q) : V G mX3_ringsOfAmounts (d, mc, ms, cc, zz) 32 L (a0 :: .ref (k + 2) :: S) h Q := V_callV (ci := 3) (T := TX3) (N := 4) hM dX3_ringsOfAmounts_32 ⟨km_X3_80, ki_X3_arrangements, ks_X3_arrangements⟩ cw_X3_arrangements rfl hc (by decide) hdd rfl rfl hrm hf kk
theorem tX3_allDivisible_0 {G : gx} {b : bg} {h : ah} {Q : Option Value → ah → Prop} {x1 : Int32} (q1 : V G mX3_allDivisible b 2 [some (.ref 5), some (.int x1), some (.int (0 : Int32))] [] h Q) : V G mX3_allDivisible b 0 [some (.ref 5), some (.int x1)] [] h Q := by
  refine V_iconst dX3_allDivisible_0 ic_0 ?_
  refine V_istore_n dX3_allDivisible_1 rfl (Nat.le_of_ble_eq_true rfl) ?_
  exact V_sub (by exact (And.intro rfl (And.intro rfl (And.intro rfl True.intro)))) (q1)
theorem tX3_allDivisible_2 {G : gx} {b : bg} {h : ah} {Q : Option Value → ah → Prop} {x1 : Int32} {x2 : Int32} {camt : Nat → Int32} (g5 : h 5 = (3, .inl [.ref 3, .ref 6, .ref 7, .ref 8])) (g8 : h 8 = (0, .inr (5, .inl camt))) (q1 : ((5 : Int32) ≤ x2) → Q (some (.int (1 : Int32))) h) (q2 : (¬ (5 : Int32) ≤ x2) → vp_in x2 5) (q3 : (¬ (5 : Int32) ≤ x2) → ¬ x1 = 0) (q4 : (¬ (5 : Int32) ≤ x2) → (((camt x2.toNatClampNeg) - (camt x2.toNatClampNeg) / x1 * x1) = (0 : Int32)) → V G mX3_allDivisible b 2 [some (.ref 5), some (.int x1), some (.int (x2 + (1 : Int32)))] [] h Q) (q5 : (¬ (5 : Int32) ≤ x2) → (¬ ((camt x2.toNatClampNeg) - (camt x2.toNatClampNeg) / x1 * x1) = (0 : Int32)) → Q (some (.int (0 : Int32))) h) : V G mX3_allDivisible b 2 [some (.ref 5), some (.int x1), some (.int x2)] [] h Q := by
  refine V_iload_n dX3_allDivisible_2 rfl rfl ?_
  refine V_iconst dX3_allDivisible_3 ic_5 ?_
  refine V_icmp_ge (t := 26) dX3_allDivisible_4 (by decide) (fun z1 => ?_) (fun z1 => ?_)
  ·
    refine V_iconst dX3_allDivisible_26 ic_1 ?_
    exact V_zret dX3_allDivisible_27 rfl rfl (q1 z1)
  ·
    refine V_aload_n dX3_allDivisible_7 rfl rfl ?_
    refine V_get (ci := 3) (j := 3) (C0 := RX3) (T := TX3) (N := 4) dX3_allDivisible_8 rfl g5 (by decide) (by decide) kf_X3_18 rfl ?_
    refine V_iload_n dX3_allDivisible_11 rfl rfl ?_
    refine V_iald dX3_allDivisible_12 g8 (q2 z1) ?_
    refine V_iload_n dX3_allDivisible_13 rfl rfl ?_
    refine V_irem dX3_allDivisible_14 (q3 z1) ?_
    refine V_if_eq (t := 20) dX3_allDivisible_15 (by decide) (fun z2 => ?_) (fun z2 => ?_)
    ·
      refine V_inc dX3_allDivisible_20 ic_1 rfl (Nat.le_of_ble_eq_true rfl) ?_
      refine V_goto (t := 2) dX3_allDivisible_23 (by decide) ?_
      exact V_sub (by exact (And.intro rfl (And.intro rfl (And.intro rfl True.intro)))) (q4 z1 z2)
    ·
      refine V_iconst dX3_allDivisible_18 ic_0 ?_
      exact V_zret dX3_allDivisible_19 rfl rfl (q5 z1 z2)
theorem tX3_arrangements_0 {G : gx} {b : bg} {h : ah} {Q : Option Value → ah → Prop} {x1 : Int32} (q1 : V G mX3_arrangements b 8 [some (.ref 5), some (.int x1), some (.long (1 : Int64)), none, some (.int (0 : Int32)), some (.int (0 : Int32))] [] h Q) : V G mX3_arrangements b 0 [some (.ref 5), some (.int x1)] [] h Q := by
  refine V_lconst dX3_arrangements_0 lc_1 ?_
  refine V_lstore_n dX3_arrangements_1 rfl (Nat.le_of_ble_eq_true rfl) ?_
  refine V_iconst dX3_arrangements_2 ic_0 ?_
  refine V_istore dX3_arrangements_3 (Nat.le_of_ble_eq_true rfl) ?_
  refine V_iconst dX3_arrangements_5 ic_0 ?_
  refine V_istore dX3_arrangements_6 (Nat.le_of_ble_eq_true rfl) ?_
  exact V_sub (by exact (And.intro rfl (And.intro rfl (And.intro rfl (And.intro rfl (And.intro rfl True.intro)))))) (q1)
theorem tX3_arrangements_8 {G : gx} {b : bg} {h : ah} {Q : Option Value → ah → Prop} {x1 : Int32} {y2 : Int64} {x4 : Int32} {x5 : Int32} (q1 : ((5 : Int32) ≤ x5) → Q (some (.long y2)) h) (q2 : (¬ (5 : Int32) ≤ x5) → V G mX3_arrangements b 17 [some (.ref 5), some (.int x1), some (.long y2), none, some (.int x4), some (.int x5), some (.int (1 : Int32))] [] h Q) : V G mX3_arrangements b 8 [some (.ref 5), some (.int x1), some (.long y2), none, some (.int x4), some (.int x5)] [] h Q := by
  refine V_iload dX3_arrangements_8 rfl ?_
  refine V_iconst dX3_arrangements_10 ic_5 ?_
  refine V_icmp_ge (t := 56) dX3_arrangements_11 (by decide) (fun z1 => ?_) (fun z1 => ?_)
  ·
    refine V_lload_n dX3_arrangements_56 rfl rfl ?_
    exact V_lret dX3_arrangements_57 rfl (q1 z1)
  ·
    refine V_iconst dX3_arrangements_14 ic_1 ?_
    refine V_istore dX3_arrangements_15 (Nat.le_of_ble_eq_true rfl) ?_
    exact V_sub (by exact (And.intro rfl (And.intro rfl (And.intro rfl (And.intro rfl (And.intro rfl (And.intro rfl True.intro))))))) (q2 z1)
theorem tX3_arrangements_17 {G : gx} {b : bg} {h : ah} {Q : Option Value → ah → Prop} {x1 : Int32} {y2 : Int64} {x4 : Int32} {x5 : Int32} {x6 : Int32} {camt : Nat → Int32} (g5 : h 5 = (3, .inl [.ref 3, .ref 6, .ref 7, .ref 8])) (g8 : h 8 = (0, .inr (5, .inl camt))) (q1 : vp_in x5 5) (q2 : ¬ x1 = 0) (q3 : (((camt x5.toNatClampNeg) / x1) < x6) → V G mX3_arrangements b 8 [some (.ref 5), some (.int x1), some (.long y2), none, some (.int x4), some (.int (x5 + (1 : Int32)))] [] h Q) (q4 : (¬ ((camt x5.toNatClampNeg) / x1) < x6) → ¬ x6.toInt64 = 0) (q5 : (¬ ((camt x5.toNatClampNeg) / x1) < x6) → V G mX3_arrangements b 17 [some (.ref 5), some (.int x1), some (.long ((y2 * (x4 + (1 : Int32)).toInt64) / x6.toInt64)), none, some (.int (x4 + (1 : Int32))), some (.int x5), some (.int (x6 + (1 : Int32)))] [] h Q) : V G mX3_arrangements b 17 [some (.ref 5), some (.int x1), some (.long y2), none, some (.int x4), some (.int x5), some (.int x6)] [] h Q := by
  refine V_iload dX3_arrangements_17 rfl ?_
  refine V_aload_n dX3_arrangements_19 rfl rfl ?_
  refine V_get (ci := 3) (j := 3) (C0 := RX3) (T := TX3) (N := 4) dX3_arrangements_20 rfl g5 (by decide) (by decide) kf_X3_18 rfl ?_
  refine V_iload dX3_arrangements_23 rfl ?_
  refine V_iald dX3_arrangements_25 g8 (q1) ?_
  refine V_iload_n dX3_arrangements_26 rfl rfl ?_
  refine V_idiv dX3_arrangements_27 (q2) ?_
  refine V_icmp_gt (t := 50) dX3_arrangements_28 (by decide) (fun z1 => ?_) (fun z1 => ?_)
  ·
    refine V_inc dX3_arrangements_50 ic_1 rfl (Nat.le_of_ble_eq_true rfl) ?_
    refine V_goto (t := 8) dX3_arrangements_53 (by decide) ?_
    exact V_sub (by exact (And.intro rfl (And.intro rfl (And.intro rfl (And.intro rfl (And.intro rfl True.intro)))))) (q3 z1)
  ·
    refine V_inc dX3_arrangements_31 ic_1 rfl (Nat.le_of_ble_eq_true rfl) ?_
    refine V_lload_n dX3_arrangements_34 rfl rfl ?_
    refine V_iload dX3_arrangements_35 rfl ?_
    refine V_i2l dX3_arrangements_37 ?_
    refine V_lmul dX3_arrangements_38 ?_
    refine V_iload dX3_arrangements_39 rfl ?_
    refine V_i2l dX3_arrangements_41 ?_
    refine V_ldiv dX3_arrangements_42 (q4 z1) ?_
    refine V_lstore_n dX3_arrangements_43 rfl (Nat.le_of_ble_eq_true rfl) ?_
    refine V_inc dX3_arrangements_44 ic_1 rfl (Nat.le_of_ble_eq_true rfl) ?_
    refine V_goto (t := 17) dX3_arrangements_47 (by decide) ?_
    exact V_sub (by exact (And.intro rfl (And.intro rfl (And.intro rfl (And.intro rfl (And.intro rfl (And.intro rfl True.intro))))))) (q5 z1)
