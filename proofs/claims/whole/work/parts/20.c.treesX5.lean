/-! trees of X5 -/
theorem tX5_isLost_0 {G : gx} {b : bg} {h : ah} {Q : Option Value → ah → Prop} {t : Nat} {ti : Nat} {tb : Nat} {tform : Int32} {tlength : Int32} (gt2 : h (t + 2) = (5, .inl [.ref 3, .ref (ti + 2), .int tform, .int tlength, .ref (tb + 2)])) (q1 : (¬ tform = (-1 : Int32)) → Q (some (.int (0 : Int32))) h) (q2 : (tform = (-1 : Int32)) → Q (some (.int (1 : Int32))) h) : V G mX5_isLost b 0 [some (.ref (t + 2))] [] h Q := by
  refine V_aload_n dX5_isLost_0 rfl rfl ?_
  refine V_get (ci := 5) (j := 2) (C0 := RX5) (T := TX5) (N := 5) dX5_isLost_1 rfl gt2 (by decide) (by decide) kf_X5_15 rfl ?_
  refine V_iconst dX5_isLost_4 ic_m1 ?_
  refine V_icmp_ne (t := 12) dX5_isLost_5 (by decide) (fun z1 => ?_) (fun z1 => ?_)
  ·
    refine V_iconst dX5_isLost_12 ic_0 ?_
    exact V_zret dX5_isLost_13 rfl rfl (q1 z1)
  ·
    refine V_iconst dX5_isLost_8 ic_1 ?_
    refine V_goto (t := 13) dX5_isLost_9 (by decide) ?_
    exact V_zret dX5_isLost_13 rfl rfl (q2 z1)
theorem tX5_begin_0 {G : gx} {b : bg} {h : ah} {Q : Option Value → ah → Prop} {t : Nat} {x1 : Int32} {x2 : Int32} {ti : Nat} {tb : Nat} {tform : Int32} {tlength : Int32} (gt2 : h (t + 2) = (5, .inl [.ref 3, .ref (ti + 2), .int tform, .int tlength, .ref (tb + 2)])) (q1 : V G mX5_begin b 17 [some (.ref (t + 2)), some (.int x1), some (.int x2)] [.int (0 : Int32), .int x2, .int (0 : Int32), .ref (ti + 2)] (va_up (va_up h (t + 2) (5, .inl [.ref 3, .ref (ti + 2), .int x1, .int tlength, .ref (tb + 2)])) (t + 2) (5, .inl [.ref 3, .ref (ti + 2), .int x1, .int x2, .ref (tb + 2)])) Q) : V G mX5_begin b 0 [some (.ref (t + 2)), some (.int x1), some (.int x2)] [] h Q := by
  refine V_aload_n dX5_begin_0 rfl rfl ?_
  refine V_iload_n dX5_begin_1 rfl rfl ?_
  refine V_put (ci := 5) (j := 2) (C0 := RX5) (T := TX5) (N := 5) (ty := .int) dX5_begin_2 rfl gt2 (by decide) (by decide) kf_X5_15 rfl (by decide +kernel) rfl rfl (Nat.le_of_ble_eq_true rfl) ?_
  refine V_aload_n dX5_begin_5 rfl rfl ?_
  refine V_iload_n dX5_begin_6 rfl rfl ?_
  refine V_put (ci := 5) (j := 3) (C0 := RX5) (T := TX5) (N := 5) (ty := .int) dX5_begin_7 rfl (up_s _ _ _) (by decide) (by decide) kf_X5_26 rfl (by decide +kernel) rfl rfl (Nat.le_of_ble_eq_true rfl) ?_
  refine V_aload_n dX5_begin_10 rfl rfl ?_
  refine V_get (ci := 5) (j := 1) (C0 := RX5) (T := TX5) (N := 5) dX5_begin_11 rfl (up_s _ _ _) (by decide) (by decide) kf_X5_9 rfl ?_
  refine V_iconst dX5_begin_14 ic_0 ?_
  refine V_iload_n dX5_begin_15 rfl rfl ?_
  refine V_iconst dX5_begin_16 ic_0 ?_
  exact V_sub (by exact (And.intro rfl (And.intro rfl (And.intro rfl True.intro)))) (q1)
theorem tX5_begin_20 {G : gx} {b : bg} {h : ah} {Q : Option Value → ah → Prop} {t : Nat} {x1 : Int32} {x2 : Int32} (q1 : Q none h) : V G mX5_begin b 20 [some (.ref (t + 2)), some (.int x1), some (.int x2)] [] h Q := by
  exact V_vret dX5_begin_20 rfl (q1)
theorem cX5_begin_17 {G : gx} {d mc ms cc zz d2 mc2 ms2 : Nat} {L : List (Option Value)} {S : List Value} {h : ah} {Q Q2 : Option Value → ah → Prop} {a0 a1 a2 a3 : Value} (hM : Ct G mJ7_fill_fda19 d2 mc2 ms2 [a0, a1, a2, a3] h Q2) (hdd : d2 < d ∧ d ≤ 9) (hrm : (S.map fun v => v.category).sum ≤ 8) (hf : cc + mc2 ≤ mc ∧ zz + ms2 ≤ ms) (kk : ∀ r h2, Q2 r h2 → V G mX5_begin (d, mc, ms, cc + mc2, zz + ms2) 20 L (r.toList ++ S) h2 Q) : V G mX5_begin (d, mc, ms, cc, zz) 17 L (a3 :: a2 :: a1 :: a0 :: S) h Q := V_callS hM dX5_begin_17 ⟨km_X5_29, kt_J7_fill_fda19⟩ cw_J7_fill_fda19 hdd rfl rfl hrm hf kk
theorem tX5_drop_0 {G : gx} {b : bg} {h : ah} {Q : Option Value → ah → Prop} {t : Nat} {ti : Nat} {tb : Nat} {tform : Int32} {tlength : Int32} (gt2 : h (t + 2) = (5, .inl [.ref 3, .ref (ti + 2), .int tform, .int tlength, .ref (tb + 2)])) (q1 : Q (some (.int tlength)) (va_up h (t + 2) (5, .inl [.ref 3, .ref (ti + 2), .int (-1 : Int32), .int tlength, .ref (tb + 2)]))) : V G mX5_drop b 0 [some (.ref (t + 2))] [] h Q := by
  refine V_aload_n dX5_drop_0 rfl rfl ?_
  refine V_iconst dX5_drop_1 ic_m1 ?_
  refine V_put (ci := 5) (j := 2) (C0 := RX5) (T := TX5) (N := 5) (ty := .int) dX5_drop_2 rfl gt2 (by decide) (by decide) kf_X5_15 rfl (by decide +kernel) rfl rfl (Nat.le_of_ble_eq_true rfl) ?_
  refine V_aload_n dX5_drop_5 rfl rfl ?_
  refine V_get (ci := 5) (j := 3) (C0 := RX5) (T := TX5) (N := 5) dX5_drop_6 rfl (up_s _ _ _) (by decide) (by decide) kf_X5_26 rfl ?_
  exact V_iret dX5_drop_9 rfl (q1)
theorem tX5_hasItems_0 {G : gx} {b : bg} {h : ah} {Q : Option Value → ah → Prop} {t : Nat} {x1 : Int32} {x2 : Int32} {ti : Nat} {tb : Nat} {tform : Int32} {tlength : Int32} (gt2 : h (t + 2) = (5, .inl [.ref 3, .ref (ti + 2), .int tform, .int tlength, .ref (tb + 2)])) (q1 : (x1 < (0 : Int32)) → Q (some (.int (0 : Int32))) h) (q2 : (¬ x1 < (0 : Int32)) → (x2 < (0 : Int32)) → Q (some (.int (0 : Int32))) h) (q3 : (¬ x1 < (0 : Int32)) → (¬ x2 < (0 : Int32)) → ((tlength - x2) < x1) → Q (some (.int (0 : Int32))) h) (q4 : (¬ x1 < (0 : Int32)) → (¬ x2 < (0 : Int32)) → (¬ (tlength - x2) < x1) → Q (some (.int (1 : Int32))) h) : V G mX5_hasItems b 0 [some (.ref (t + 2)), some (.int x1), some (.int x2)] [] h Q := by
  refine V_iload_n dX5_hasItems_0 rfl rfl ?_
  refine V_if_lt (t := 22) dX5_hasItems_1 (by decide) (fun z1 => ?_) (fun z1 => ?_)
  ·
    refine V_iconst dX5_hasItems_22 ic_0 ?_
    exact V_zret dX5_hasItems_23 rfl rfl (q1 z1)
  ·
    refine V_iload_n dX5_hasItems_4 rfl rfl ?_
    refine V_if_lt (t := 22) dX5_hasItems_5 (by decide) (fun z2 => ?_) (fun z2 => ?_)
    ·
      refine V_iconst dX5_hasItems_22 ic_0 ?_
      exact V_zret dX5_hasItems_23 rfl rfl (q2 z1 z2)
    ·
      refine V_iload_n dX5_hasItems_8 rfl rfl ?_
      refine V_aload_n dX5_hasItems_9 rfl rfl ?_
      refine V_get (ci := 5) (j := 3) (C0 := RX5) (T := TX5) (N := 5) dX5_hasItems_10 rfl gt2 (by decide) (by decide) kf_X5_26 rfl ?_
      refine V_iload_n dX5_hasItems_13 rfl rfl ?_
      refine V_isub dX5_hasItems_14 ?_
      refine V_icmp_gt (t := 22) dX5_hasItems_15 (by decide) (fun z3 => ?_) (fun z3 => ?_)
      ·
        refine V_iconst dX5_hasItems_22 ic_0 ?_
        exact V_zret dX5_hasItems_23 rfl rfl (q3 z1 z2 z3)
      ·
        refine V_iconst dX5_hasItems_18 ic_1 ?_
        refine V_goto (t := 23) dX5_hasItems_19 (by decide) ?_
        exact V_zret dX5_hasItems_23 rfl rfl (q4 z1 z2 z3)
theorem tX5_fitted_0 {G : gx} {b : bg} {h : ah} {Q : Option Value → ah → Prop} {t : Nat} {x1 : Int32} {ti : Nat} {tb : Nat} {tform : Int32} {tlength : Int32} (gt2 : h (t + 2) = (5, .inl [.ref 3, .ref (ti + 2), .int tform, .int tlength, .ref (tb + 2)])) (q1 : V G mX5_fitted b 4 [some (.ref (t + 2)), some (.int x1)] [.int tform] h Q) : V G mX5_fitted b 0 [some (.ref (t + 2)), some (.int x1)] [] h Q := by
  refine V_aload_n dX5_fitted_0 rfl rfl ?_
  refine V_get (ci := 5) (j := 2) (C0 := RX5) (T := TX5) (N := 5) dX5_fitted_1 rfl gt2 (by decide) (by decide) kf_X5_15 rfl ?_
  exact V_sub (by exact (And.intro rfl (And.intro rfl True.intro))) (q1)
theorem tX5_fitted_32 {G : gx} {b : bg} {h : ah} {Q : Option Value → ah → Prop} {t : Nat} {x1 : Int32} (q1 : Q (some (.int (x1.toInt8.toInt32))) h) : V G mX5_fitted b 32 [some (.ref (t + 2)), some (.int x1)] [] h Q := by
  refine V_iload_n dX5_fitted_32 rfl rfl ?_
  refine V_i2b dX5_fitted_33 ?_
  exact V_iret dX5_fitted_34 rfl (q1)
theorem tX5_fitted_35 {G : gx} {b : bg} {h : ah} {Q : Option Value → ah → Prop} {t : Nat} {x1 : Int32} (q1 : Q (some (.int ((x1.toUInt32 % 65536).toInt32))) h) : V G mX5_fitted b 35 [some (.ref (t + 2)), some (.int x1)] [] h Q := by
  refine V_iload_n dX5_fitted_35 rfl rfl ?_
  refine V_i2c dX5_fitted_36 ?_
  exact V_iret dX5_fitted_37 rfl (q1)
theorem tX5_fitted_38 {G : gx} {b : bg} {h : ah} {Q : Option Value → ah → Prop} {t : Nat} {x1 : Int32} (q1 : Q (some (.int (x1.toInt16.toInt32))) h) : V G mX5_fitted b 38 [some (.ref (t + 2)), some (.int x1)] [] h Q := by
  refine V_iload_n dX5_fitted_38 rfl rfl ?_
  refine V_i2s dX5_fitted_39 ?_
  exact V_iret dX5_fitted_40 rfl (q1)
theorem tX5_hasBlanks_0 {G : gx} {b : bg} {h : ah} {Q : Option Value → ah → Prop} {t : Nat} (q1 : V G mX5_hasBlanks b 2 [some (.ref (t + 2)), some (.int (0 : Int32))] [] h Q) : V G mX5_hasBlanks b 0 [some (.ref (t + 2))] [] h Q := by
  refine V_iconst dX5_hasBlanks_0 ic_0 ?_
  refine V_istore_n dX5_hasBlanks_1 rfl (Nat.le_of_ble_eq_true rfl) ?_
  exact V_sub (by exact (And.intro rfl (And.intro rfl True.intro))) (q1)
theorem tX5_hasBlanks_2 {G : gx} {b : bg} {h : ah} {Q : Option Value → ah → Prop} {t : Nat} {x1 : Int32} {ti : Nat} {tb : Nat} {tform : Int32} {tlength : Int32} {fti : Nat → Int32} {nti : Nat} (gt2 : h (t + 2) = (5, .inl [.ref 3, .ref (ti + 2), .int tform, .int tlength, .ref (tb + 2)])) (gti2 : h (ti + 2) = (0, .inr (nti, .inl fti))) (q1 : (tlength ≤ x1) → Q (some (.int (0 : Int32))) h) (q2 : (¬ tlength ≤ x1) → vp_in x1 nti) (q3 : (¬ tlength ≤ x1) → V G mX5_hasBlanks b 20 [some (.ref (t + 2)), some (.int x1)] [.int (fti x1.toNatClampNeg), .ref 3] h Q) : V G mX5_hasBlanks b 2 [some (.ref (t + 2)), some (.int x1)] [] h Q := by
  refine V_iload_n dX5_hasBlanks_2 rfl rfl ?_
  refine V_aload_n dX5_hasBlanks_3 rfl rfl ?_
  refine V_get (ci := 5) (j := 3) (C0 := RX5) (T := TX5) (N := 5) dX5_hasBlanks_4 rfl gt2 (by decide) (by decide) kf_X5_26 rfl ?_
  refine V_icmp_ge (t := 34) dX5_hasBlanks_7 (by decide) (fun z1 => ?_) (fun z1 => ?_)
  ·
    refine V_iconst dX5_hasBlanks_34 ic_0 ?_
    exact V_zret dX5_hasBlanks_35 rfl rfl (q1 z1)
  ·
    refine V_aload_n dX5_hasBlanks_10 rfl rfl ?_
    refine V_get (ci := 5) (j := 0) (C0 := RX5) (T := TX5) (N := 5) dX5_hasBlanks_11 rfl gt2 (by decide) (by decide) kf_X5_22 rfl ?_
    refine V_aload_n dX5_hasBlanks_14 rfl rfl ?_
    refine V_get (ci := 5) (j := 1) (C0 := RX5) (T := TX5) (N := 5) dX5_hasBlanks_15 rfl gt2 (by decide) (by decide) kf_X5_9 rfl ?_
    refine V_iload_n dX5_hasBlanks_18 rfl rfl ?_
    refine V_iald dX5_hasBlanks_19 gti2 (q2 z1) ?_
    exact V_sub (by exact (And.intro rfl (And.intro rfl True.intro))) (q3 z1)
theorem tX5_hasBlanks_23 {G : gx} {b : bg} {h : ah} {Q : Option Value → ah → Prop} {t : Nat} {x1 : Int32} {s0 : Int32} (q1 : (¬ s0 = (0 : Int32)) → V G mX5_hasBlanks b 2 [some (.ref (t + 2)), some (.int (x1 + (1 : Int32)))] [] h Q) (q2 : (s0 = (0 : Int32)) → Q (some (.int (1 : Int32))) h) : V G mX5_hasBlanks b 23 [some (.ref (t + 2)), some (.int x1)] [.int s0] h Q := by
  refine V_if_ne (t := 28) dX5_hasBlanks_23 (by decide) (fun z1 => ?_) (fun z1 => ?_)
  ·
    refine V_inc dX5_hasBlanks_28 ic_1 rfl (Nat.le_of_ble_eq_true rfl) ?_
    refine V_goto (t := 2) dX5_hasBlanks_31 (by decide) ?_
    exact V_sub (by exact (And.intro rfl (And.intro rfl True.intro))) (q1 z1)
  ·
    refine V_iconst dX5_hasBlanks_26 ic_1 ?_
    exact V_zret dX5_hasBlanks_27 rfl rfl (q2 z1)
theorem cX5_hasBlanks_20 {G : gx} {d mc ms cc zz d2 mc2 ms2 : Nat} {L : List (Option Value)} {S : List Value} {h : ah} {Q Q2 : Option Value → ah → Prop} {k : Nat} {fs : List Value} {a0 : Value} (hM : Ct G mX6_isLetter d2 mc2 ms2 (.ref (k + 2) :: [a0]) h Q2) (hc : h (k + 2) = (6, .inl fs)) (hdd : d2 < d ∧ d ≤ 9) (hrm : (S.map fun v => v.category).sum ≤ 8) (hf : cc + mc2 ≤ mc ∧ zz + ms2 ≤ ms) (kk : ∀ r h2, Q2 r h2 → V G mX5_hasBlanks (d, mc, ms, cc + mc2, zz + ms2) 23 L (r.toList ++ S) h2 Q) : V G mX5_hasBlanks (d, mc, ms, cc, zz) 20 L (a0 :: .ref (k + 2) :: S) h Q := V_callVN (ci := 6) (T := TX6) (N := 5) hM dX5_hasBlanks_20 ⟨km_X5_35, ki_X6_isLetter, ks_X6_isLetter⟩ cw_X6_isLetter rfl hc (by decide) hdd rfl rfl hrm hf kk
theorem tX5_firstRepeated_0 {G : gx} {b : bg} {h : ah} {Q : Option Value → ah → Prop} {t : Nat} (q1 : V G mX5_firstRepeated b 2 [some (.ref (t + 2)), some (.int (0 : Int32))] [] h Q) : V G mX5_firstRepeated b 0 [some (.ref (t + 2))] [] h Q := by
  refine V_iconst dX5_firstRepeated_0 ic_0 ?_
  refine V_istore_n dX5_firstRepeated_1 rfl (Nat.le_of_ble_eq_true rfl) ?_
  exact V_sub (by exact (And.intro rfl (And.intro rfl True.intro))) (q1)
theorem tX5_firstRepeated_2 {G : gx} {b : bg} {h : ah} {Q : Option Value → ah → Prop} {t : Nat} {x1 : Int32} {ti : Nat} {tb : Nat} {tform : Int32} {tlength : Int32} (gt2 : h (t + 2) = (5, .inl [.ref 3, .ref (ti + 2), .int tform, .int tlength, .ref (tb + 2)])) (q1 : (tlength ≤ x1) → Q (some (.int (-1 : Int32))) h) (q2 : (¬ tlength ≤ x1) → V G mX5_firstRepeated b 17 [some (.ref (t + 2)), some (.int x1)] [.int x1, .ref (t + 2), .int x1, .ref (tb + 2)] h Q) : V G mX5_firstRepeated b 2 [some (.ref (t + 2)), some (.int x1)] [] h Q := by
  refine V_iload_n dX5_firstRepeated_2 rfl rfl ?_
  refine V_aload_n dX5_firstRepeated_3 rfl rfl ?_
  refine V_get (ci := 5) (j := 3) (C0 := RX5) (T := TX5) (N := 5) dX5_firstRepeated_4 rfl gt2 (by decide) (by decide) kf_X5_26 rfl ?_
  refine V_icmp_ge (t := 57) dX5_firstRepeated_7 (by decide) (fun z1 => ?_) (fun z1 => ?_)
  ·
    refine V_iconst dX5_firstRepeated_57 ic_m1 ?_
    exact V_iret dX5_firstRepeated_58 rfl (q1 z1)
  ·
    refine V_aload_n dX5_firstRepeated_10 rfl rfl ?_
    refine V_get (ci := 5) (j := 4) (C0 := RX5) (T := TX5) (N := 5) dX5_firstRepeated_11 rfl gt2 (by decide) (by decide) kf_X5_19 rfl ?_
    refine V_iload_n dX5_firstRepeated_14 rfl rfl ?_
    refine V_aload_n dX5_firstRepeated_15 rfl rfl ?_
    refine V_iload_n dX5_firstRepeated_16 rfl rfl ?_
    exact V_sub (by exact (And.intro rfl (And.intro rfl True.intro))) (q2 z1)
theorem tX5_firstRepeated_23 {G : gx} {b : bg} {h : ah} {Q : Option Value → ah → Prop} {t : Nat} {x1 : Int32} {x2 : Int32} {ti : Nat} {tb : Nat} {tform : Int32} {tlength : Int32} {ftb : Nat → Int32} {ntb : Nat} (gt2 : h (t + 2) = (5, .inl [.ref 3, .ref (ti + 2), .int tform, .int tlength, .ref (tb + 2)])) (gtb2 : h (tb + 2) = (0, .inr (ntb, .inl ftb))) (q1 : (x1 ≤ x2) → V G mX5_firstRepeated b 2 [some (.ref (t + 2)), some (.int (x1 + (1 : Int32)))] [] h Q) (q2 : (¬ x1 ≤ x2) → vp_in x2 ntb) (q3 : (¬ x1 ≤ x2) → vp_in x1 ntb) (q4 : (¬ x1 ≤ x2) → (¬ (ftb x2.toNatClampNeg) = (ftb x1.toNatClampNeg)) → V G mX5_firstRepeated b 23 [some (.ref (t + 2)), some (.int x1), some (.int (x2 + (1 : Int32)))] [] h Q) (q5 : (¬ x1 ≤ x2) → ((ftb x2.toNatClampNeg) = (ftb x1.toNatClampNeg)) → Q (some (.int x1)) h) : V G mX5_firstRepeated b 23 [some (.ref (t + 2)), some (.int x1), some (.int x2)] [] h Q := by
  refine V_iload_n dX5_firstRepeated_23 rfl rfl ?_
  refine V_iload_n dX5_firstRepeated_24 rfl rfl ?_
  refine V_icmp_ge (t := 51) dX5_firstRepeated_25 (by decide) (fun z1 => ?_) (fun z1 => ?_)
  ·
    refine V_inc dX5_firstRepeated_51 ic_1 rfl (Nat.le_of_ble_eq_true rfl) ?_
    refine V_goto (t := 2) dX5_firstRepeated_54 (by decide) ?_
    exact V_sub (by exact (And.intro rfl (And.intro rfl True.intro))) (q1 z1)
  ·
    refine V_aload_n dX5_firstRepeated_28 rfl rfl ?_
    refine V_get (ci := 5) (j := 4) (C0 := RX5) (T := TX5) (N := 5) dX5_firstRepeated_29 rfl gt2 (by decide) (by decide) kf_X5_19 rfl ?_
    refine V_iload_n dX5_firstRepeated_32 rfl rfl ?_
    refine V_iald dX5_firstRepeated_33 gtb2 (q2 z1) ?_
    refine V_aload_n dX5_firstRepeated_34 rfl rfl ?_
    refine V_get (ci := 5) (j := 4) (C0 := RX5) (T := TX5) (N := 5) dX5_firstRepeated_35 rfl gt2 (by decide) (by decide) kf_X5_19 rfl ?_
    refine V_iload_n dX5_firstRepeated_38 rfl rfl ?_
    refine V_iald dX5_firstRepeated_39 gtb2 (q3 z1) ?_
    refine V_icmp_ne (t := 45) dX5_firstRepeated_40 (by decide) (fun z2 => ?_) (fun z2 => ?_)
    ·
      refine V_inc dX5_firstRepeated_45 ic_1 rfl (Nat.le_of_ble_eq_true rfl) ?_
      refine V_goto (t := 23) dX5_firstRepeated_48 (by decide) ?_
      exact V_sub (by exact (And.intro rfl (And.intro rfl (And.intro rfl True.intro)))) (q4 z1 z2)
    ·
      refine V_iload_n dX5_firstRepeated_43 rfl rfl ?_
      exact V_iret dX5_firstRepeated_44 rfl (q5 z1 z2)
theorem tX5_firstRepeated_20 {G : gx} {b : bg} {h : ah} {Q : Option Value → ah → Prop} {t : Nat} {x1 : Int32} {s0 : Int32} {s1 : Int32} {s2 : Nat} {fs2 : Nat → Int32} {ns2 : Nat} (gs22 : h (s2 + 2) = (0, .inr (ns2, .inl fs2))) (q1 : vp_in s1 ns2) (q2 : V G mX5_firstRepeated b 23 [some (.ref (t + 2)), some (.int x1), some (.int (0 : Int32))] [] (va_up h (s2 + 2) (0, .inr (ns2, .inl (upd fs2 s1.toNatClampNeg s0)))) Q) : V G mX5_firstRepeated b 20 [some (.ref (t + 2)), some (.int x1)] [.int s0, .int s1, .ref (s2 + 2)] h Q := by
  refine V_iast dX5_firstRepeated_20 gs22 (q1) ?_
  refine V_iconst dX5_firstRepeated_21 ic_0 ?_
  refine V_istore_n dX5_firstRepeated_22 rfl (Nat.le_of_ble_eq_true rfl) ?_
  exact V_sub (by exact (And.intro rfl (And.intro rfl (And.intro rfl True.intro)))) (q2)
theorem cX5_firstRepeated_17 {G : gx} {d mc ms cc zz d2 mc2 ms2 : Nat} {L : List (Option Value)} {S : List Value} {h : ah} {Q Q2 : Option Value → ah → Prop} {k : Nat} {fs : List Value} {a0 : Value} (hM : Ct G mX5_wordAt d2 mc2 ms2 (.ref (k + 2) :: [a0]) h Q2) (hc : h (k + 2) = (5, .inl fs)) (hdd : d2 < d ∧ d ≤ 9) (hrm : (S.map fun v => v.category).sum ≤ 8) (hf : cc + mc2 ≤ mc ∧ zz + ms2 ≤ ms) (kk : ∀ r h2, Q2 r h2 → V G mX5_firstRepeated (d, mc, ms, cc + mc2, zz + ms2) 20 L (r.toList ++ S) h2 Q) : V G mX5_firstRepeated (d, mc, ms, cc, zz) 17 L (a0 :: .ref (k + 2) :: S) h Q := V_callV (ci := 5) (T := TX5) (N := 5) hM dX5_firstRepeated_17 ⟨km_X5_41, ki_X5_wordAt, ks_X5_wordAt⟩ cw_X5_wordAt rfl hc (by decide) hdd rfl rfl hrm hf kk
theorem tX5_wordAt_0 {G : gx} {b : bg} {h : ah} {Q : Option Value → ah → Prop} {t : Nat} {x1 : Int32} (q1 : V G mX5_wordAt b 7 [some (.ref (t + 2)), some (.int x1), some (.int (0 : Int32)), some (.int x1), some (.int (0 : Int32))] [] h Q) : V G mX5_wordAt b 0 [some (.ref (t + 2)), some (.int x1)] [] h Q := by
  refine V_iconst dX5_wordAt_0 ic_0 ?_
  refine V_istore_n dX5_wordAt_1 rfl (Nat.le_of_ble_eq_true rfl) ?_
  refine V_iload_n dX5_wordAt_2 rfl rfl ?_
  refine V_istore_n dX5_wordAt_3 rfl (Nat.le_of_ble_eq_true rfl) ?_
  refine V_iconst dX5_wordAt_4 ic_0 ?_
  refine V_istore dX5_wordAt_5 (Nat.le_of_ble_eq_true rfl) ?_
  exact V_sub (by exact (And.intro rfl (And.intro rfl (And.intro rfl (And.intro rfl (And.intro rfl True.intro)))))) (q1)
theorem tX5_wordAt_7 {G : gx} {b : bg} {h : ah} {Q : Option Value → ah → Prop} {t : Nat} {x1 : Int32} {x2 : Int32} {x3 : Int32} {x4 : Int32} {ti : Nat} {tb : Nat} {tform : Int32} {tlength : Int32} {wletters : Int32} {wlength : Int32} {wall : Int32} {whigh : Int32} {fti : Nat → Int32} {nti : Nat} (gt2 : h (t + 2) = (5, .inl [.ref 3, .ref (ti + 2), .int tform, .int tlength, .ref (tb + 2)])) (g3 : h 3 = (6, .inl [.ref 4, .int wletters, .int wlength, .int wall, .int whigh])) (gti2 : h (ti + 2) = (0, .inr (nti, .inl fti))) (q1 : (wlength ≤ x4) → Q (some (.int x2)) h) (q2 : (¬ wlength ≤ x4) → vp_in x3 nti) (q3 : (¬ wlength ≤ x4) → (tlength ≤ (x3 + (1 : Int32))) → V G mX5_wordAt b 7 [some (.ref (t + 2)), some (.int x1), some (.int ((x2 * wletters) + (fti x3.toNatClampNeg))), some (.int (0 : Int32)), some (.int (x4 + (1 : Int32)))] [] h Q) (q4 : (¬ wlength ≤ x4) → (¬ tlength ≤ (x3 + (1 : Int32))) → V G mX5_wordAt b 7 [some (.ref (t + 2)), some (.int x1), some (.int ((x2 * wletters) + (fti x3.toNatClampNeg))), some (.int (x3 + (1 : Int32))), some (.int (x4 + (1 : Int32)))] [] h Q) : V G mX5_wordAt b 7 [some (.ref (t + 2)), some (.int x1), some (.int x2), some (.int x3), some (.int x4)] [] h Q := by
  refine V_iload dX5_wordAt_7 rfl ?_
  refine V_aload_n dX5_wordAt_9 rfl rfl ?_
  refine V_get (ci := 5) (j := 0) (C0 := RX5) (T := TX5) (N := 5) dX5_wordAt_10 rfl gt2 (by decide) (by decide) kf_X5_22 rfl ?_
  refine V_getN (ci := 6) (j := 2) (C0 := RX6) (T := TX6) (N := 5) dX5_wordAt_13 rfl g3 (by decide) (by decide) kf_X5_45 rfl ?_
  refine V_icmp_ge (t := 60) dX5_wordAt_16 (by decide) (fun z1 => ?_) (fun z1 => ?_)
  ·
    refine V_iload_n dX5_wordAt_60 rfl rfl ?_
    exact V_iret dX5_wordAt_61 rfl (q1 z1)
  ·
    refine V_iload_n dX5_wordAt_19 rfl rfl ?_
    refine V_aload_n dX5_wordAt_20 rfl rfl ?_
    refine V_get (ci := 5) (j := 0) (C0 := RX5) (T := TX5) (N := 5) dX5_wordAt_21 rfl gt2 (by decide) (by decide) kf_X5_22 rfl ?_
    refine V_getN (ci := 6) (j := 1) (C0 := RX6) (T := TX6) (N := 5) dX5_wordAt_24 rfl g3 (by decide) (by decide) kf_X5_46 rfl ?_
    refine V_imul dX5_wordAt_27 ?_
    refine V_aload_n dX5_wordAt_28 rfl rfl ?_
    refine V_get (ci := 5) (j := 1) (C0 := RX5) (T := TX5) (N := 5) dX5_wordAt_29 rfl gt2 (by decide) (by decide) kf_X5_9 rfl ?_
    refine V_iload_n dX5_wordAt_32 rfl rfl ?_
    refine V_iald dX5_wordAt_33 gti2 (q2 z1) ?_
    refine V_iadd dX5_wordAt_34 ?_
    refine V_istore_n dX5_wordAt_35 rfl (Nat.le_of_ble_eq_true rfl) ?_
    refine V_iload_n dX5_wordAt_36 rfl rfl ?_
    refine V_iconst dX5_wordAt_37 ic_1 ?_
    refine V_iadd dX5_wordAt_38 ?_
    refine V_aload_n dX5_wordAt_39 rfl rfl ?_
    refine V_get (ci := 5) (j := 3) (C0 := RX5) (T := TX5) (N := 5) dX5_wordAt_40 rfl gt2 (by decide) (by decide) kf_X5_26 rfl ?_
    refine V_icmp_ge (t := 52) dX5_wordAt_43 (by decide) (fun z2 => ?_) (fun z2 => ?_)
    ·
      refine V_iconst dX5_wordAt_52 ic_0 ?_
      refine V_istore_n dX5_wordAt_53 rfl (Nat.le_of_ble_eq_true rfl) ?_
      refine V_inc dX5_wordAt_54 ic_1 rfl (Nat.le_of_ble_eq_true rfl) ?_
      refine V_goto (t := 7) dX5_wordAt_57 (by decide) ?_
      exact V_sub (by exact (And.intro rfl (And.intro rfl (And.intro rfl (And.intro rfl (And.intro rfl True.intro)))))) (q3 z1 z2)
    ·
      refine V_iload_n dX5_wordAt_46 rfl rfl ?_
      refine V_iconst dX5_wordAt_47 ic_1 ?_
      refine V_iadd dX5_wordAt_48 ?_
      refine V_goto (t := 53) dX5_wordAt_49 (by decide) ?_
      refine V_istore_n dX5_wordAt_53 rfl (Nat.le_of_ble_eq_true rfl) ?_
      refine V_inc dX5_wordAt_54 ic_1 rfl (Nat.le_of_ble_eq_true rfl) ?_
      refine V_goto (t := 7) dX5_wordAt_57 (by decide) ?_
      exact V_sub (by exact (And.intro rfl (And.intro rfl (And.intro rfl (And.intro rfl (And.intro rfl True.intro)))))) (q4 z1 z2)
