/-! trees of X6 -/
theorem tX6_howMany_0 {G : gx} {b : bg} {h : ah} {Q : Option Value → ah → Prop} {x0 : Int32} {x1 : Int32} (q1 : (x0 < (2 : Int32)) → Q (some (.int (0 : Int32))) h) (q2 : (¬ x0 < (2 : Int32)) → ((5 : Int32) < x0) → Q (some (.int (0 : Int32))) h) (q3 : (¬ x0 < (2 : Int32)) → (¬ (5 : Int32) < x0) → (x1 < (1 : Int32)) → Q (some (.int (0 : Int32))) h) (q4 : (¬ x0 < (2 : Int32)) → (¬ (5 : Int32) < x0) → (¬ x1 < (1 : Int32)) → (x1 ≤ (14 : Int32)) → V G mX6_howMany b 27 [some (.int x0), some (.int x1), some (.int (1 : Int32)), some (.int (0 : Int32))] [] h Q) (q5 : (¬ x0 < (2 : Int32)) → (¬ (5 : Int32) < x0) → (¬ x1 < (1 : Int32)) → (¬ x1 ≤ (14 : Int32)) → Q (some (.int (0 : Int32))) h) : V G mX6_howMany b 0 [some (.int x0), some (.int x1)] [] h Q := by
  refine V_iload_n dX6_howMany_0 rfl rfl ?_
  refine V_iconst dX6_howMany_1 ic_2 ?_
  refine V_icmp_lt (t := 21) dX6_howMany_2 (by decide) (fun z1 => ?_) (fun z1 => ?_)
  ·
    refine V_iconst dX6_howMany_21 ic_0 ?_
    exact V_iret dX6_howMany_22 rfl (q1 z1)
  ·
    refine V_iload_n dX6_howMany_5 rfl rfl ?_
    refine V_iconst dX6_howMany_6 ic_5 ?_
    refine V_icmp_gt (t := 21) dX6_howMany_7 (by decide) (fun z2 => ?_) (fun z2 => ?_)
    ·
      refine V_iconst dX6_howMany_21 ic_0 ?_
      exact V_iret dX6_howMany_22 rfl (q2 z1 z2)
    ·
      refine V_iload_n dX6_howMany_10 rfl rfl ?_
      refine V_iconst dX6_howMany_11 ic_1 ?_
      refine V_icmp_lt (t := 21) dX6_howMany_12 (by decide) (fun z3 => ?_) (fun z3 => ?_)
      ·
        refine V_iconst dX6_howMany_21 ic_0 ?_
        exact V_iret dX6_howMany_22 rfl (q3 z1 z2 z3)
      ·
        refine V_iload_n dX6_howMany_15 rfl rfl ?_
        refine V_bipush dX6_howMany_16 bp_14 ?_
        refine V_icmp_le (t := 23) dX6_howMany_18 (by decide) (fun z4 => ?_) (fun z4 => ?_)
        ·
          refine V_iconst dX6_howMany_23 ic_1 ?_
          refine V_istore_n dX6_howMany_24 rfl (Nat.le_of_ble_eq_true rfl) ?_
          refine V_iconst dX6_howMany_25 ic_0 ?_
          refine V_istore_n dX6_howMany_26 rfl (Nat.le_of_ble_eq_true rfl) ?_
          exact V_sub (by exact (And.intro rfl (And.intro rfl (And.intro rfl (And.intro rfl True.intro))))) (q4 z1 z2 z3 z4)
        ·
          refine V_iconst dX6_howMany_21 ic_0 ?_
          exact V_iret dX6_howMany_22 rfl (q5 z1 z2 z3 z4)
theorem tX6_howMany_27 {G : gx} {b : bg} {h : ah} {Q : Option Value → ah → Prop} {x0 : Int32} {x1 : Int32} {x2 : Int32} {x3 : Int32} (q1 : (x1 ≤ x3) → Q (some (.int x2)) h) (q2 : (¬ x1 ≤ x3) → ((x2 * x0) ≤ (20000 : Int32)) → V G mX6_howMany b 27 [some (.int x0), some (.int x1), some (.int (x2 * x0)), some (.int (x3 + (1 : Int32)))] [] h Q) (q3 : (¬ x1 ≤ x3) → (¬ (x2 * x0) ≤ (20000 : Int32)) → Q (some (.int (0 : Int32))) h) : V G mX6_howMany b 27 [some (.int x0), some (.int x1), some (.int x2), some (.int x3)] [] h Q := by
  refine V_iload_n dX6_howMany_27 rfl rfl ?_
  refine V_iload_n dX6_howMany_28 rfl rfl ?_
  refine V_icmp_ge (t := 51) dX6_howMany_29 (by decide) (fun z1 => ?_) (fun z1 => ?_)
  ·
    refine V_iload_n dX6_howMany_51 rfl rfl ?_
    exact V_iret dX6_howMany_52 rfl (q1 z1)
  ·
    refine V_iload_n dX6_howMany_32 rfl rfl ?_
    refine V_iload_n dX6_howMany_33 rfl rfl ?_
    refine V_imul dX6_howMany_34 ?_
    refine V_istore_n dX6_howMany_35 rfl (Nat.le_of_ble_eq_true rfl) ?_
    refine V_iload_n dX6_howMany_36 rfl rfl ?_
    refine V_sipush dX6_howMany_37 sp_20000 ?_
    refine V_icmp_le (t := 45) dX6_howMany_40 (by decide) (fun z2 => ?_) (fun z2 => ?_)
    ·
      refine V_inc dX6_howMany_45 ic_1 rfl (Nat.le_of_ble_eq_true rfl) ?_
      refine V_goto (t := 27) dX6_howMany_48 (by decide) ?_
      exact V_sub (by exact (And.intro rfl (And.intro rfl (And.intro rfl (And.intro rfl True.intro))))) (q2 z1 z2)
    ·
      refine V_iconst dX6_howMany_43 ic_0 ?_
      exact V_iret dX6_howMany_44 rfl (q3 z1 z2)
theorem tX6_become_0 {G : gx} {b : bg} {h : ah} {Q : Option Value → ah → Prop} {x1 : Int32} {x2 : Int32} {wletters : Int32} {wlength : Int32} {wall : Int32} {whigh : Int32} {wpower : Nat → Int32} (g3 : h 3 = (6, .inl [.ref 4, .int wletters, .int wlength, .int wall, .int whigh])) (g4 : h 4 = (0, .inr (15, .inl wpower))) (q1 : vp_in (0 : Int32) 15) (q2 : V G mX6_become b 19 [some (.ref 3), some (.int x1), some (.int x2), some (.int (1 : Int32))] [] (va_up (va_up (va_up h 3 (6, .inl [.ref 4, .int x1, .int wlength, .int wall, .int whigh])) 3 (6, .inl [.ref 4, .int x1, .int x2, .int wall, .int whigh])) 4 (0, .inr (15, .inl (upd wpower (0 : Int32).toNatClampNeg (1 : Int32))))) Q) : V G mX6_become b 0 [some (.ref 3), some (.int x1), some (.int x2)] [] h Q := by
  refine V_aload_n dX6_become_0 rfl rfl ?_
  refine V_iload_n dX6_become_1 rfl rfl ?_
  refine V_put (ci := 6) (j := 1) (C0 := RX6) (T := TX6) (N := 5) (ty := .int) dX6_become_2 rfl g3 (by decide) (by decide) kf_X6_19 rfl (by decide +kernel) rfl rfl (Nat.le_of_ble_eq_true rfl) ?_
  refine V_aload_n dX6_become_5 rfl rfl ?_
  refine V_iload_n dX6_become_6 rfl rfl ?_
  refine V_put (ci := 6) (j := 2) (C0 := RX6) (T := TX6) (N := 5) (ty := .int) dX6_become_7 rfl rfl (by decide) (by decide) kf_X6_23 rfl (by decide +kernel) rfl rfl (Nat.le_of_ble_eq_true rfl) ?_
  refine V_aload_n dX6_become_10 rfl rfl ?_
  refine V_get (ci := 6) (j := 0) (C0 := RX6) (T := TX6) (N := 5) dX6_become_11 rfl rfl (by decide) (by decide) kf_X6_9 rfl ?_
  refine V_iconst dX6_become_14 ic_0 ?_
  refine V_iconst dX6_become_15 ic_1 ?_
  refine V_iast dX6_become_16 g4 (q1) ?_
  refine V_iconst dX6_become_17 ic_1 ?_
  refine V_istore_n dX6_become_18 rfl (Nat.le_of_ble_eq_true rfl) ?_
  exact V_sub (by exact (And.intro rfl (And.intro rfl (And.intro rfl (And.intro rfl True.intro))))) (q2)
theorem tX6_become_19 {G : gx} {b : bg} {h : ah} {Q : Option Value → ah → Prop} {x1 : Int32} {x2 : Int32} {x3 : Int32} {wletters : Int32} {wlength : Int32} {wall : Int32} {whigh : Int32} {wpower : Nat → Int32} (g3 : h 3 = (6, .inl [.ref 4, .int wletters, .int wlength, .int wall, .int whigh])) (g4 : h 4 = (0, .inr (15, .inl wpower))) (q1 : (x2 < x3) → vp_in x2 15) (q2 : (x2 < x3) → vp_in (x2 - (1 : Int32)) 15) (q3 : (x2 < x3) → Q none (va_up (va_up h 3 (6, .inl [.ref 4, .int wletters, .int wlength, .int (wpower x2.toNatClampNeg), .int whigh])) 3 (6, .inl [.ref 4, .int wletters, .int wlength, .int (wpower x2.toNatClampNeg), .int (wpower (x2 - (1 : Int32)).toNatClampNeg)]))) (q4 : (¬ x2 < x3) → vp_in (x3 - (1 : Int32)) 15) (q5 : (¬ x2 < x3) → vp_in x3 15) (q6 : (¬ x2 < x3) → V G mX6_become b 19 [some (.ref 3), some (.int x1), some (.int x2), some (.int (x3 + (1 : Int32)))] [] (va_up h 4 (0, .inr (15, .inl (upd wpower x3.toNatClampNeg ((wpower (x3 - (1 : Int32)).toNatClampNeg) * x1))))) Q) : V G mX6_become b 19 [some (.ref 3), some (.int x1), some (.int x2), some (.int x3)] [] h Q := by
  refine V_iload_n dX6_become_19 rfl rfl ?_
  refine V_iload_n dX6_become_20 rfl rfl ?_
  refine V_icmp_gt (t := 46) dX6_become_21 (by decide) (fun z1 => ?_) (fun z1 => ?_)
  ·
    refine V_aload_n dX6_become_46 rfl rfl ?_
    refine V_aload_n dX6_become_47 rfl rfl ?_
    refine V_get (ci := 6) (j := 0) (C0 := RX6) (T := TX6) (N := 5) dX6_become_48 rfl g3 (by decide) (by decide) kf_X6_9 rfl ?_
    refine V_iload_n dX6_become_51 rfl rfl ?_
    refine V_iald dX6_become_52 g4 (q1 z1) ?_
    refine V_put (ci := 6) (j := 3) (C0 := RX6) (T := TX6) (N := 5) (ty := .int) dX6_become_53 rfl g3 (by decide) (by decide) kf_X6_26 rfl (by decide +kernel) rfl rfl (Nat.le_of_ble_eq_true rfl) ?_
    refine V_aload_n dX6_become_56 rfl rfl ?_
    refine V_aload_n dX6_become_57 rfl rfl ?_
    refine V_get (ci := 6) (j := 0) (C0 := RX6) (T := TX6) (N := 5) dX6_become_58 rfl rfl (by decide) (by decide) kf_X6_9 rfl ?_
    refine V_iload_n dX6_become_61 rfl rfl ?_
    refine V_iconst dX6_become_62 ic_1 ?_
    refine V_isub dX6_become_63 ?_
    refine V_iald dX6_become_64 g4 (q2 z1) ?_
    refine V_put (ci := 6) (j := 4) (C0 := RX6) (T := TX6) (N := 5) (ty := .int) dX6_become_65 rfl rfl (by decide) (by decide) kf_X6_29 rfl (by decide +kernel) rfl rfl (Nat.le_of_ble_eq_true rfl) ?_
    exact V_vret dX6_become_68 rfl (q3 z1)
  ·
    refine V_aload_n dX6_become_24 rfl rfl ?_
    refine V_get (ci := 6) (j := 0) (C0 := RX6) (T := TX6) (N := 5) dX6_become_25 rfl g3 (by decide) (by decide) kf_X6_9 rfl ?_
    refine V_iload_n dX6_become_28 rfl rfl ?_
    refine V_aload_n dX6_become_29 rfl rfl ?_
    refine V_get (ci := 6) (j := 0) (C0 := RX6) (T := TX6) (N := 5) dX6_become_30 rfl g3 (by decide) (by decide) kf_X6_9 rfl ?_
    refine V_iload_n dX6_become_33 rfl rfl ?_
    refine V_iconst dX6_become_34 ic_1 ?_
    refine V_isub dX6_become_35 ?_
    refine V_iald dX6_become_36 g4 (q4 z1) ?_
    refine V_iload_n dX6_become_37 rfl rfl ?_
    refine V_imul dX6_become_38 ?_
    refine V_iast dX6_become_39 g4 (q5 z1) ?_
    refine V_inc dX6_become_40 ic_1 rfl (Nat.le_of_ble_eq_true rfl) ?_
    refine V_goto (t := 19) dX6_become_43 (by decide) ?_
    exact V_sub (by exact (And.intro rfl (And.intro rfl (And.intro rfl (And.intro rfl True.intro))))) (q6 z1)
theorem tX6_has_0 {G : gx} {b : bg} {h : ah} {Q : Option Value → ah → Prop} {x1 : Int32} {wletters : Int32} {wlength : Int32} {wall : Int32} {whigh : Int32} (g3 : h 3 = (6, .inl [.ref 4, .int wletters, .int wlength, .int wall, .int whigh])) (q1 : (x1 < (0 : Int32)) → Q (some (.int (0 : Int32))) h) (q2 : (¬ x1 < (0 : Int32)) → (wall ≤ x1) → Q (some (.int (0 : Int32))) h) (q3 : (¬ x1 < (0 : Int32)) → (¬ wall ≤ x1) → Q (some (.int (1 : Int32))) h) : V G mX6_has b 0 [some (.ref 3), some (.int x1)] [] h Q := by
  refine V_iload_n dX6_has_0 rfl rfl ?_
  refine V_if_lt (t := 16) dX6_has_1 (by decide) (fun z1 => ?_) (fun z1 => ?_)
  ·
    refine V_iconst dX6_has_16 ic_0 ?_
    exact V_zret dX6_has_17 rfl rfl (q1 z1)
  ·
    refine V_iload_n dX6_has_4 rfl rfl ?_
    refine V_aload_n dX6_has_5 rfl rfl ?_
    refine V_get (ci := 6) (j := 3) (C0 := RX6) (T := TX6) (N := 5) dX6_has_6 rfl g3 (by decide) (by decide) kf_X6_26 rfl ?_
    refine V_icmp_ge (t := 16) dX6_has_9 (by decide) (fun z2 => ?_) (fun z2 => ?_)
    ·
      refine V_iconst dX6_has_16 ic_0 ?_
      exact V_zret dX6_has_17 rfl rfl (q2 z1 z2)
    ·
      refine V_iconst dX6_has_12 ic_1 ?_
      refine V_goto (t := 17) dX6_has_13 (by decide) ?_
      exact V_zret dX6_has_17 rfl rfl (q3 z1 z2)
theorem tX6_isLetter_0 {G : gx} {b : bg} {h : ah} {Q : Option Value → ah → Prop} {x1 : Int32} {wletters : Int32} {wlength : Int32} {wall : Int32} {whigh : Int32} (g3 : h 3 = (6, .inl [.ref 4, .int wletters, .int wlength, .int wall, .int whigh])) (q1 : (x1 < (0 : Int32)) → Q (some (.int (0 : Int32))) h) (q2 : (¬ x1 < (0 : Int32)) → (wletters ≤ x1) → Q (some (.int (0 : Int32))) h) (q3 : (¬ x1 < (0 : Int32)) → (¬ wletters ≤ x1) → Q (some (.int (1 : Int32))) h) : V G mX6_isLetter b 0 [some (.ref 3), some (.int x1)] [] h Q := by
  refine V_iload_n dX6_isLetter_0 rfl rfl ?_
  refine V_if_lt (t := 16) dX6_isLetter_1 (by decide) (fun z1 => ?_) (fun z1 => ?_)
  ·
    refine V_iconst dX6_isLetter_16 ic_0 ?_
    exact V_zret dX6_isLetter_17 rfl rfl (q1 z1)
  ·
    refine V_iload_n dX6_isLetter_4 rfl rfl ?_
    refine V_aload_n dX6_isLetter_5 rfl rfl ?_
    refine V_get (ci := 6) (j := 1) (C0 := RX6) (T := TX6) (N := 5) dX6_isLetter_6 rfl g3 (by decide) (by decide) kf_X6_19 rfl ?_
    refine V_icmp_ge (t := 16) dX6_isLetter_9 (by decide) (fun z2 => ?_) (fun z2 => ?_)
    ·
      refine V_iconst dX6_isLetter_16 ic_0 ?_
      exact V_zret dX6_isLetter_17 rfl rfl (q2 z1 z2)
    ·
      refine V_iconst dX6_isLetter_12 ic_1 ?_
      refine V_goto (t := 17) dX6_isLetter_13 (by decide) ?_
      exact V_zret dX6_isLetter_17 rfl rfl (q3 z1 z2)
theorem tX6_differInFirst_0 {G : gx} {b : bg} {h : ah} {Q : Option Value → ah → Prop} {x1 : Int32} {x2 : Int32} {wletters : Int32} {wlength : Int32} {wall : Int32} {whigh : Int32} (g3 : h 3 = (6, .inl [.ref 4, .int wletters, .int wlength, .int wall, .int whigh])) (q1 : (x1 = x2) → Q (some (.int (0 : Int32))) h) (q2 : (¬ x1 = x2) → ¬ whigh = 0) (q3 : (¬ x1 = x2) → ¬ whigh = 0) (q4 : (¬ x1 = x2) → (¬ (x1 - x1 / whigh * whigh) = (x2 - x2 / whigh * whigh)) → Q (some (.int (0 : Int32))) h) (q5 : (¬ x1 = x2) → ((x1 - x1 / whigh * whigh) = (x2 - x2 / whigh * whigh)) → Q (some (.int (1 : Int32))) h) : V G mX6_differInFirst b 0 [some (.ref 3), some (.int x1), some (.int x2)] [] h Q := by
  refine V_iload_n dX6_differInFirst_0 rfl rfl ?_
  refine V_iload_n dX6_differInFirst_1 rfl rfl ?_
  refine V_icmp_eq (t := 24) dX6_differInFirst_2 (by decide) (fun z1 => ?_) (fun z1 => ?_)
  ·
    refine V_iconst dX6_differInFirst_24 ic_0 ?_
    exact V_zret dX6_differInFirst_25 rfl rfl (q1 z1)
  ·
    refine V_iload_n dX6_differInFirst_5 rfl rfl ?_
    refine V_aload_n dX6_differInFirst_6 rfl rfl ?_
    refine V_get (ci := 6) (j := 4) (C0 := RX6) (T := TX6) (N := 5) dX6_differInFirst_7 rfl g3 (by decide) (by decide) kf_X6_29 rfl ?_
    refine V_irem dX6_differInFirst_10 (q2 z1) ?_
    refine V_iload_n dX6_differInFirst_11 rfl rfl ?_
    refine V_aload_n dX6_differInFirst_12 rfl rfl ?_
    refine V_get (ci := 6) (j := 4) (C0 := RX6) (T := TX6) (N := 5) dX6_differInFirst_13 rfl g3 (by decide) (by decide) kf_X6_29 rfl ?_
    refine V_irem dX6_differInFirst_16 (q3 z1) ?_
    refine V_icmp_ne (t := 24) dX6_differInFirst_17 (by decide) (fun z2 => ?_) (fun z2 => ?_)
    ·
      refine V_iconst dX6_differInFirst_24 ic_0 ?_
      exact V_zret dX6_differInFirst_25 rfl rfl (q4 z1 z2)
    ·
      refine V_iconst dX6_differInFirst_20 ic_1 ?_
      refine V_goto (t := 25) dX6_differInFirst_21 (by decide) ?_
      exact V_zret dX6_differInFirst_25 rfl rfl (q5 z1 z2)
theorem tX6_turned_0 {G : gx} {b : bg} {h : ah} {Q : Option Value → ah → Prop} {x1 : Int32} {x2 : Int32} {wletters : Int32} {wlength : Int32} {wall : Int32} {whigh : Int32} {wpower : Nat → Int32} (g3 : h 3 = (6, .inl [.ref 4, .int wletters, .int wlength, .int wall, .int whigh])) (g4 : h 4 = (0, .inr (15, .inl wpower))) (q1 : ¬ wlength = 0) (q2 : vp_in (wlength - (x2 - x2 / wlength * wlength)) 15) (q3 : ¬ (wpower (wlength - (x2 - x2 / wlength * wlength)).toNatClampNeg) = 0) (q4 : vp_in (x2 - x2 / wlength * wlength) 15) (q5 : ¬ (wpower (wlength - (x2 - x2 / wlength * wlength)).toNatClampNeg) = 0) (q6 : Q (some (.int (((x1 - x1 / (wpower (wlength - (x2 - x2 / wlength * wlength)).toNatClampNeg) * (wpower (wlength - (x2 - x2 / wlength * wlength)).toNatClampNeg)) * (wpower (x2 - x2 / wlength * wlength).toNatClampNeg)) + (x1 / (wpower (wlength - (x2 - x2 / wlength * wlength)).toNatClampNeg))))) h) : V G mX6_turned b 0 [some (.ref 3), some (.int x1), some (.int x2)] [] h Q := by
  refine V_iload_n dX6_turned_0 rfl rfl ?_
  refine V_aload_n dX6_turned_1 rfl rfl ?_
  refine V_get (ci := 6) (j := 2) (C0 := RX6) (T := TX6) (N := 5) dX6_turned_2 rfl g3 (by decide) (by decide) kf_X6_23 rfl ?_
  refine V_irem dX6_turned_5 (q1) ?_
  refine V_istore_n dX6_turned_6 rfl (Nat.le_of_ble_eq_true rfl) ?_
  refine V_aload_n dX6_turned_7 rfl rfl ?_
  refine V_get (ci := 6) (j := 0) (C0 := RX6) (T := TX6) (N := 5) dX6_turned_8 rfl g3 (by decide) (by decide) kf_X6_9 rfl ?_
  refine V_aload_n dX6_turned_11 rfl rfl ?_
  refine V_get (ci := 6) (j := 2) (C0 := RX6) (T := TX6) (N := 5) dX6_turned_12 rfl g3 (by decide) (by decide) kf_X6_23 rfl ?_
  refine V_iload_n dX6_turned_15 rfl rfl ?_
  refine V_isub dX6_turned_16 ?_
  refine V_iald dX6_turned_17 g4 (q2) ?_
  refine V_istore dX6_turned_18 (Nat.le_of_ble_eq_true rfl) ?_
  refine V_iload_n dX6_turned_20 rfl rfl ?_
  refine V_iload dX6_turned_21 rfl ?_
  refine V_irem dX6_turned_23 (q3) ?_
  refine V_aload_n dX6_turned_24 rfl rfl ?_
  refine V_get (ci := 6) (j := 0) (C0 := RX6) (T := TX6) (N := 5) dX6_turned_25 rfl g3 (by decide) (by decide) kf_X6_9 rfl ?_
  refine V_iload_n dX6_turned_28 rfl rfl ?_
  refine V_iald dX6_turned_29 g4 (q4) ?_
  refine V_imul dX6_turned_30 ?_
  refine V_iload_n dX6_turned_31 rfl rfl ?_
  refine V_iload dX6_turned_32 rfl ?_
  refine V_idiv dX6_turned_34 (q5) ?_
  refine V_iadd dX6_turned_35 ?_
  exact V_iret dX6_turned_36 rfl (q6)
theorem tX6_turnedOnce_0 {G : gx} {b : bg} {h : ah} {Q : Option Value → ah → Prop} {x1 : Int32} {wletters : Int32} {wlength : Int32} {wall : Int32} {whigh : Int32} (g3 : h 3 = (6, .inl [.ref 4, .int wletters, .int wlength, .int wall, .int whigh])) (q1 : ¬ whigh = 0) (q2 : ¬ whigh = 0) (q3 : Q (some (.int (((x1 - x1 / whigh * whigh) * wletters) + (x1 / whigh)))) h) : V G mX6_turnedOnce b 0 [some (.ref 3), some (.int x1)] [] h Q := by
  refine V_iload_n dX6_turnedOnce_0 rfl rfl ?_
  refine V_aload_n dX6_turnedOnce_1 rfl rfl ?_
  refine V_get (ci := 6) (j := 4) (C0 := RX6) (T := TX6) (N := 5) dX6_turnedOnce_2 rfl g3 (by decide) (by decide) kf_X6_29 rfl ?_
  refine V_irem dX6_turnedOnce_5 (q1) ?_
  refine V_aload_n dX6_turnedOnce_6 rfl rfl ?_
  refine V_get (ci := 6) (j := 1) (C0 := RX6) (T := TX6) (N := 5) dX6_turnedOnce_7 rfl g3 (by decide) (by decide) kf_X6_19 rfl ?_
  refine V_imul dX6_turnedOnce_10 ?_
  refine V_iload_n dX6_turnedOnce_11 rfl rfl ?_
  refine V_aload_n dX6_turnedOnce_12 rfl rfl ?_
  refine V_get (ci := 6) (j := 4) (C0 := RX6) (T := TX6) (N := 5) dX6_turnedOnce_13 rfl g3 (by decide) (by decide) kf_X6_29 rfl ?_
  refine V_idiv dX6_turnedOnce_16 (q2) ?_
  refine V_iadd dX6_turnedOnce_17 ?_
  exact V_iret dX6_turnedOnce_18 rfl (q3)
theorem tX6_leastOf_0 {G : gx} {b : bg} {h : ah} {Q : Option Value → ah → Prop} {x1 : Int32} (q1 : V G mX6_leastOf b 7 [some (.ref 3), some (.int x1), some (.int x1), some (.int x1), some (.int (1 : Int32))] [] h Q) : V G mX6_leastOf b 0 [some (.ref 3), some (.int x1)] [] h Q := by
  refine V_iload_n dX6_leastOf_0 rfl rfl ?_
  refine V_istore_n dX6_leastOf_1 rfl (Nat.le_of_ble_eq_true rfl) ?_
  refine V_iload_n dX6_leastOf_2 rfl rfl ?_
  refine V_istore_n dX6_leastOf_3 rfl (Nat.le_of_ble_eq_true rfl) ?_
  refine V_iconst dX6_leastOf_4 ic_1 ?_
  refine V_istore dX6_leastOf_5 (Nat.le_of_ble_eq_true rfl) ?_
  exact V_sub (by exact (And.intro rfl (And.intro rfl (And.intro rfl (And.intro rfl (And.intro rfl True.intro)))))) (q1)
theorem tX6_leastOf_7 {G : gx} {b : bg} {h : ah} {Q : Option Value → ah → Prop} {x1 : Int32} {x2 : Int32} {x3 : Int32} {x4 : Int32} {wletters : Int32} {wlength : Int32} {wall : Int32} {whigh : Int32} (g3 : h 3 = (6, .inl [.ref 4, .int wletters, .int wlength, .int wall, .int whigh])) (q1 : (wlength ≤ x4) → Q (some (.int x2)) h) (q2 : (¬ wlength ≤ x4) → V G mX6_leastOf b 18 [some (.ref 3), some (.int x1), some (.int x2), some (.int x3), some (.int x4)] [.int x3, .ref 3] h Q) : V G mX6_leastOf b 7 [some (.ref 3), some (.int x1), some (.int x2), some (.int x3), some (.int x4)] [] h Q := by
  refine V_iload dX6_leastOf_7 rfl ?_
  refine V_aload_n dX6_leastOf_9 rfl rfl ?_
  refine V_get (ci := 6) (j := 2) (C0 := RX6) (T := TX6) (N := 5) dX6_leastOf_10 rfl g3 (by decide) (by decide) kf_X6_23 rfl ?_
  refine V_icmp_ge (t := 34) dX6_leastOf_13 (by decide) (fun z1 => ?_) (fun z1 => ?_)
  ·
    refine V_iload_n dX6_leastOf_34 rfl rfl ?_
    exact V_iret dX6_leastOf_35 rfl (q1 z1)
  ·
    refine V_aload_n dX6_leastOf_16 rfl rfl ?_
    refine V_iload_n dX6_leastOf_17 rfl rfl ?_
    exact V_sub (by exact (And.intro rfl (And.intro rfl (And.intro rfl (And.intro rfl (And.intro rfl True.intro)))))) (q2 z1)
theorem tX6_leastOf_21 {G : gx} {b : bg} {h : ah} {Q : Option Value → ah → Prop} {x1 : Int32} {x2 : Int32} {x3 : Int32} {x4 : Int32} {s0 : Int32} (q1 : V G mX6_leastOf b 24 [some (.ref 3), some (.int x1), some (.int x2), some (.int s0), some (.int x4)] [.int s0, .int x2] h Q) : V G mX6_leastOf b 21 [some (.ref 3), some (.int x1), some (.int x2), some (.int x3), some (.int x4)] [.int s0] h Q := by
  refine V_istore_n dX6_leastOf_21 rfl (Nat.le_of_ble_eq_true rfl) ?_
  refine V_iload_n dX6_leastOf_22 rfl rfl ?_
  refine V_iload_n dX6_leastOf_23 rfl rfl ?_
  exact V_sub (by exact (And.intro rfl (And.intro rfl (And.intro rfl (And.intro rfl (And.intro rfl True.intro)))))) (q1)
theorem tX6_leastOf_27 {G : gx} {b : bg} {h : ah} {Q : Option Value → ah → Prop} {x1 : Int32} {x2 : Int32} {x3 : Int32} {x4 : Int32} {s0 : Int32} (q1 : V G mX6_leastOf b 7 [some (.ref 3), some (.int x1), some (.int s0), some (.int x3), some (.int (x4 + (1 : Int32)))] [] h Q) : V G mX6_leastOf b 27 [some (.ref 3), some (.int x1), some (.int x2), some (.int x3), some (.int x4)] [.int s0] h Q := by
  refine V_istore_n dX6_leastOf_27 rfl (Nat.le_of_ble_eq_true rfl) ?_
  refine V_inc dX6_leastOf_28 ic_1 rfl (Nat.le_of_ble_eq_true rfl) ?_
  refine V_goto (t := 7) dX6_leastOf_31 (by decide) ?_
  exact V_sub (by exact (And.intro rfl (And.intro rfl (And.intro rfl (And.intro rfl (And.intro rfl True.intro)))))) (q1)
theorem cX6_leastOf_18 {G : gx} {d mc ms cc zz d2 mc2 ms2 : Nat} {L : List (Option Value)} {S : List Value} {h : ah} {Q Q2 : Option Value → ah → Prop} {k : Nat} {fs : List Value} {a0 : Value} (hM : Ct G mX6_turnedOnce d2 mc2 ms2 (.ref (k + 2) :: [a0]) h Q2) (hc : h (k + 2) = (6, .inl fs)) (hdd : d2 < d ∧ d ≤ 9) (hrm : (S.map fun v => v.category).sum ≤ 8) (hf : cc + mc2 ≤ mc ∧ zz + ms2 ≤ ms) (kk : ∀ r h2, Q2 r h2 → V G mX6_leastOf (d, mc, ms, cc + mc2, zz + ms2) 21 L (r.toList ++ S) h2 Q) : V G mX6_leastOf (d, mc, ms, cc, zz) 18 L (a0 :: .ref (k + 2) :: S) h Q := V_callV (ci := 6) (T := TX6) (N := 5) hM dX6_leastOf_18 ⟨km_X6_32, ki_X6_turnedOnce, ks_X6_turnedOnce⟩ cw_X6_turnedOnce rfl hc (by decide) hdd rfl rfl hrm hf kk
theorem cX6_leastOf_24 {G : gx} {d mc ms cc zz d2 mc2 ms2 : Nat} {L : List (Option Value)} {S : List Value} {h : ah} {Q Q2 : Option Value → ah → Prop} {a0 a1 : Value} (hM : Ct G mJ9_min_7cf53 d2 mc2 ms2 [a0, a1] h Q2) (hdd : d2 < d ∧ d ≤ 9) (hrm : (S.map fun v => v.category).sum ≤ 8) (hf : cc + mc2 ≤ mc ∧ zz + ms2 ≤ ms) (kk : ∀ r h2, Q2 r h2 → V G mX6_leastOf (d, mc, ms, cc + mc2, zz + ms2) 27 L (r.toList ++ S) h2 Q) : V G mX6_leastOf (d, mc, ms, cc, zz) 24 L (a1 :: a0 :: S) h Q := V_callS hM dX6_leastOf_24 ⟨km_X6_36, kt_J9_min_7cf53⟩ cw_J9_min_7cf53 hdd rfl rfl hrm hf kk
theorem tX6_stepsToLeast_0 {G : gx} {b : bg} {h : ah} {Q : Option Value → ah → Prop} {x1 : Int32} (q1 : V G mX6_stepsToLeast b 10 [some (.ref 3), some (.int x1), some (.int x1), some (.int (0 : Int32)), some (.int x1), some (.int (1 : Int32))] [] h Q) : V G mX6_stepsToLeast b 0 [some (.ref 3), some (.int x1)] [] h Q := by
  refine V_iload_n dX6_stepsToLeast_0 rfl rfl ?_
  refine V_istore_n dX6_stepsToLeast_1 rfl (Nat.le_of_ble_eq_true rfl) ?_
  refine V_iconst dX6_stepsToLeast_2 ic_0 ?_
  refine V_istore_n dX6_stepsToLeast_3 rfl (Nat.le_of_ble_eq_true rfl) ?_
  refine V_iload_n dX6_stepsToLeast_4 rfl rfl ?_
  refine V_istore dX6_stepsToLeast_5 (Nat.le_of_ble_eq_true rfl) ?_
  refine V_iconst dX6_stepsToLeast_7 ic_1 ?_
  refine V_istore dX6_stepsToLeast_8 (Nat.le_of_ble_eq_true rfl) ?_
  exact V_sub (by exact (And.intro rfl (And.intro rfl (And.intro rfl (And.intro rfl (And.intro rfl (And.intro rfl True.intro))))))) (q1)
theorem tX6_stepsToLeast_10 {G : gx} {b : bg} {h : ah} {Q : Option Value → ah → Prop} {x1 : Int32} {x2 : Int32} {x3 : Int32} {x4 : Int32} {x5 : Int32} {wletters : Int32} {wlength : Int32} {wall : Int32} {whigh : Int32} (g3 : h 3 = (6, .inl [.ref 4, .int wletters, .int wlength, .int wall, .int whigh])) (q1 : (wlength ≤ x5) → Q (some (.int x3)) h) (q2 : (¬ wlength ≤ x5) → V G mX6_stepsToLeast b 22 [some (.ref 3), some (.int x1), some (.int x2), some (.int x3), some (.int x4), some (.int x5)] [.int x4, .ref 3] h Q) : V G mX6_stepsToLeast b 10 [some (.ref 3), some (.int x1), some (.int x2), some (.int x3), some (.int x4), some (.int x5)] [] h Q := by
  refine V_iload dX6_stepsToLeast_10 rfl ?_
  refine V_aload_n dX6_stepsToLeast_12 rfl rfl ?_
  refine V_get (ci := 6) (j := 2) (C0 := RX6) (T := TX6) (N := 5) dX6_stepsToLeast_13 rfl g3 (by decide) (by decide) kf_X6_23 rfl ?_
  refine V_icmp_ge (t := 45) dX6_stepsToLeast_16 (by decide) (fun z1 => ?_) (fun z1 => ?_)
  ·
    refine V_iload_n dX6_stepsToLeast_45 rfl rfl ?_
    exact V_iret dX6_stepsToLeast_46 rfl (q1 z1)
  ·
    refine V_aload_n dX6_stepsToLeast_19 rfl rfl ?_
    refine V_iload dX6_stepsToLeast_20 rfl ?_
    exact V_sub (by exact (And.intro rfl (And.intro rfl (And.intro rfl (And.intro rfl (And.intro rfl (And.intro rfl True.intro))))))) (q2 z1)
theorem tX6_stepsToLeast_25 {G : gx} {b : bg} {h : ah} {Q : Option Value → ah → Prop} {x1 : Int32} {x2 : Int32} {x3 : Int32} {x4 : Int32} {x5 : Int32} {s0 : Int32} (q1 : (x2 ≤ s0) → V G mX6_stepsToLeast b 10 [some (.ref 3), some (.int x1), some (.int x2), some (.int x3), some (.int s0), some (.int (x5 + (1 : Int32)))] [] h Q) (q2 : (¬ x2 ≤ s0) → V G mX6_stepsToLeast b 10 [some (.ref 3), some (.int x1), some (.int s0), some (.int x5), some (.int s0), some (.int (x5 + (1 : Int32)))] [] h Q) : V G mX6_stepsToLeast b 25 [some (.ref 3), some (.int x1), some (.int x2), some (.int x3), some (.int x4), some (.int x5)] [.int s0] h Q := by
  refine V_istore dX6_stepsToLeast_25 (Nat.le_of_ble_eq_true rfl) ?_
  refine V_iload dX6_stepsToLeast_27 rfl ?_
  refine V_iload_n dX6_stepsToLeast_29 rfl rfl ?_
  refine V_icmp_ge (t := 39) dX6_stepsToLeast_30 (by decide) (fun z1 => ?_) (fun z1 => ?_)
  ·
    refine V_inc dX6_stepsToLeast_39 ic_1 rfl (Nat.le_of_ble_eq_true rfl) ?_
    refine V_goto (t := 10) dX6_stepsToLeast_42 (by decide) ?_
    exact V_sub (by exact (And.intro rfl (And.intro rfl (And.intro rfl (And.intro rfl (And.intro rfl (And.intro rfl True.intro))))))) (q1 z1)
  ·
    refine V_iload dX6_stepsToLeast_33 rfl ?_
    refine V_istore_n dX6_stepsToLeast_35 rfl (Nat.le_of_ble_eq_true rfl) ?_
    refine V_iload dX6_stepsToLeast_36 rfl ?_
    refine V_istore_n dX6_stepsToLeast_38 rfl (Nat.le_of_ble_eq_true rfl) ?_
    refine V_inc dX6_stepsToLeast_39 ic_1 rfl (Nat.le_of_ble_eq_true rfl) ?_
    refine V_goto (t := 10) dX6_stepsToLeast_42 (by decide) ?_
    exact V_sub (by exact (And.intro rfl (And.intro rfl (And.intro rfl (And.intro rfl (And.intro rfl (And.intro rfl True.intro))))))) (q2 z1)
theorem cX6_stepsToLeast_22 {G : gx} {d mc ms cc zz d2 mc2 ms2 : Nat} {L : List (Option Value)} {S : List Value} {h : ah} {Q Q2 : Option Value → ah → Prop} {k : Nat} {fs : List Value} {a0 : Value} (hM : Ct G mX6_turnedOnce d2 mc2 ms2 (.ref (k + 2) :: [a0]) h Q2) (hc : h (k + 2) = (6, .inl fs)) (hdd : d2 < d ∧ d ≤ 9) (hrm : (S.map fun v => v.category).sum ≤ 8) (hf : cc + mc2 ≤ mc ∧ zz + ms2 ≤ ms) (kk : ∀ r h2, Q2 r h2 → V G mX6_stepsToLeast (d, mc, ms, cc + mc2, zz + ms2) 25 L (r.toList ++ S) h2 Q) : V G mX6_stepsToLeast (d, mc, ms, cc, zz) 22 L (a0 :: .ref (k + 2) :: S) h Q := V_callV (ci := 6) (T := TX6) (N := 5) hM dX6_stepsToLeast_22 ⟨km_X6_32, ki_X6_turnedOnce, ks_X6_turnedOnce⟩ cw_X6_turnedOnce rfl hc (by decide) hdd rfl rfl hrm hf kk
theorem tX6_ringSize_0 {G : gx} {b : bg} {h : ah} {Q : Option Value → ah → Prop} {x1 : Int32} (q1 : V G mX6_ringSize b 2 [some (.ref 3), some (.int x1)] [.int x1, .ref 3] h Q) : V G mX6_ringSize b 0 [some (.ref 3), some (.int x1)] [] h Q := by
  refine V_aload_n dX6_ringSize_0 rfl rfl ?_
  refine V_iload_n dX6_ringSize_1 rfl rfl ?_
  exact V_sub (by exact (And.intro rfl (And.intro rfl True.intro))) (q1)
theorem tX6_ringSize_8 {G : gx} {b : bg} {h : ah} {Q : Option Value → ah → Prop} {x1 : Int32} {x2 : Int32} {x3 : Int32} {wletters : Int32} {wlength : Int32} {wall : Int32} {whigh : Int32} (g3 : h 3 = (6, .inl [.ref 4, .int wletters, .int wlength, .int wall, .int whigh])) (q1 : (wlength ≤ x3) → Q (some (.int x3)) h) (q2 : (¬ wlength ≤ x3) → (x2 = x1) → Q (some (.int x3)) h) (q3 : (¬ wlength ≤ x3) → (¬ x2 = x1) → V G mX6_ringSize b 23 [some (.ref 3), some (.int x1), some (.int x2), some (.int x3)] [.int x2, .ref 3] h Q) : V G mX6_ringSize b 8 [some (.ref 3), some (.int x1), some (.int x2), some (.int x3)] [] h Q := by
  refine V_iload_n dX6_ringSize_8 rfl rfl ?_
  refine V_aload_n dX6_ringSize_9 rfl rfl ?_
  refine V_get (ci := 6) (j := 2) (C0 := RX6) (T := TX6) (N := 5) dX6_ringSize_10 rfl g3 (by decide) (by decide) kf_X6_23 rfl ?_
  refine V_icmp_ge (t := 33) dX6_ringSize_13 (by decide) (fun z1 => ?_) (fun z1 => ?_)
  ·
    refine V_iload_n dX6_ringSize_33 rfl rfl ?_
    exact V_iret dX6_ringSize_34 rfl (q1 z1)
  ·
    refine V_iload_n dX6_ringSize_16 rfl rfl ?_
    refine V_iload_n dX6_ringSize_17 rfl rfl ?_
    refine V_icmp_eq (t := 33) dX6_ringSize_18 (by decide) (fun z2 => ?_) (fun z2 => ?_)
    ·
      refine V_iload_n dX6_ringSize_33 rfl rfl ?_
      exact V_iret dX6_ringSize_34 rfl (q2 z1 z2)
    ·
      refine V_aload_n dX6_ringSize_21 rfl rfl ?_
      refine V_iload_n dX6_ringSize_22 rfl rfl ?_
      exact V_sub (by exact (And.intro rfl (And.intro rfl (And.intro rfl (And.intro rfl True.intro))))) (q3 z1 z2)
theorem tX6_ringSize_5 {G : gx} {b : bg} {h : ah} {Q : Option Value → ah → Prop} {x1 : Int32} {s0 : Int32} (q1 : V G mX6_ringSize b 8 [some (.ref 3), some (.int x1), some (.int s0), some (.int (1 : Int32))] [] h Q) : V G mX6_ringSize b 5 [some (.ref 3), some (.int x1)] [.int s0] h Q := by
  refine V_istore_n dX6_ringSize_5 rfl (Nat.le_of_ble_eq_true rfl) ?_
  refine V_iconst dX6_ringSize_6 ic_1 ?_
  refine V_istore_n dX6_ringSize_7 rfl (Nat.le_of_ble_eq_true rfl) ?_
  exact V_sub (by exact (And.intro rfl (And.intro rfl (And.intro rfl (And.intro rfl True.intro))))) (q1)
theorem tX6_ringSize_26 {G : gx} {b : bg} {h : ah} {Q : Option Value → ah → Prop} {x1 : Int32} {x2 : Int32} {x3 : Int32} {s0 : Int32} (q1 : V G mX6_ringSize b 8 [some (.ref 3), some (.int x1), some (.int s0), some (.int (x3 + (1 : Int32)))] [] h Q) : V G mX6_ringSize b 26 [some (.ref 3), some (.int x1), some (.int x2), some (.int x3)] [.int s0] h Q := by
  refine V_istore_n dX6_ringSize_26 rfl (Nat.le_of_ble_eq_true rfl) ?_
  refine V_inc dX6_ringSize_27 ic_1 rfl (Nat.le_of_ble_eq_true rfl) ?_
  refine V_goto (t := 8) dX6_ringSize_30 (by decide) ?_
  exact V_sub (by exact (And.intro rfl (And.intro rfl (And.intro rfl (And.intro rfl True.intro))))) (q1)
theorem cX6_ringSize_2 {G : gx} {d mc ms cc zz d2 mc2 ms2 : Nat} {L : List (Option Value)} {S : List Value} {h : ah} {Q Q2 : Option Value → ah → Prop} {k : Nat} {fs : List Value} {a0 : Value} (hM : Ct G mX6_turnedOnce d2 mc2 ms2 (.ref (k + 2) :: [a0]) h Q2) (hc : h (k + 2) = (6, .inl fs)) (hdd : d2 < d ∧ d ≤ 9) (hrm : (S.map fun v => v.category).sum ≤ 8) (hf : cc + mc2 ≤ mc ∧ zz + ms2 ≤ ms) (kk : ∀ r h2, Q2 r h2 → V G mX6_ringSize (d, mc, ms, cc + mc2, zz + ms2) 5 L (r.toList ++ S) h2 Q) : V G mX6_ringSize (d, mc, ms, cc, zz) 2 L (a0 :: .ref (k + 2) :: S) h Q := V_callV (ci := 6) (T := TX6) (N := 5) hM dX6_ringSize_2 ⟨km_X6_32, ki_X6_turnedOnce, ks_X6_turnedOnce⟩ cw_X6_turnedOnce rfl hc (by decide) hdd rfl rfl hrm hf kk
theorem cX6_ringSize_23 {G : gx} {d mc ms cc zz d2 mc2 ms2 : Nat} {L : List (Option Value)} {S : List Value} {h : ah} {Q Q2 : Option Value → ah → Prop} {k : Nat} {fs : List Value} {a0 : Value} (hM : Ct G mX6_turnedOnce d2 mc2 ms2 (.ref (k + 2) :: [a0]) h Q2) (hc : h (k + 2) = (6, .inl fs)) (hdd : d2 < d ∧ d ≤ 9) (hrm : (S.map fun v => v.category).sum ≤ 8) (hf : cc + mc2 ≤ mc ∧ zz + ms2 ≤ ms) (kk : ∀ r h2, Q2 r h2 → V G mX6_ringSize (d, mc, ms, cc + mc2, zz + ms2) 26 L (r.toList ++ S) h2 Q) : V G mX6_ringSize (d, mc, ms, cc, zz) 23 L (a0 :: .ref (k + 2) :: S) h Q := V_callV (ci := 6) (T := TX6) (N := 5) hM dX6_ringSize_23 ⟨km_X6_32, ki_X6_turnedOnce, ks_X6_turnedOnce⟩ cw_X6_turnedOnce rfl hc (by decide) hdd rfl rfl hrm hf kk
theorem tX6_backward_0 {G : gx} {b : bg} {h : ah} {Q : Option Value → ah → Prop} {x1 : Int32} (q1 : V G mX6_backward b 7 [some (.ref 3), some (.int x1), some (.int x1), some (.int (0 : Int32)), some (.int (0 : Int32))] [] h Q) : V G mX6_backward b 0 [some (.ref 3), some (.int x1)] [] h Q := by
  refine V_iload_n dX6_backward_0 rfl rfl ?_
  refine V_istore_n dX6_backward_1 rfl (Nat.le_of_ble_eq_true rfl) ?_
  refine V_iconst dX6_backward_2 ic_0 ?_
  refine V_istore_n dX6_backward_3 rfl (Nat.le_of_ble_eq_true rfl) ?_
  refine V_iconst dX6_backward_4 ic_0 ?_
  refine V_istore dX6_backward_5 (Nat.le_of_ble_eq_true rfl) ?_
  exact V_sub (by exact (And.intro rfl (And.intro rfl (And.intro rfl (And.intro rfl (And.intro rfl True.intro)))))) (q1)
theorem tX6_backward_7 {G : gx} {b : bg} {h : ah} {Q : Option Value → ah → Prop} {x1 : Int32} {x2 : Int32} {x3 : Int32} {x4 : Int32} {wletters : Int32} {wlength : Int32} {wall : Int32} {whigh : Int32} (g3 : h 3 = (6, .inl [.ref 4, .int wletters, .int wlength, .int wall, .int whigh])) (q1 : (wlength ≤ x4) → Q (some (.int x3)) h) (q2 : (¬ wlength ≤ x4) → ¬ wletters = 0) (q3 : (¬ wlength ≤ x4) → ¬ wletters = 0) (q4 : (¬ wlength ≤ x4) → V G mX6_backward b 7 [some (.ref 3), some (.int x1), some (.int (x2 / wletters)), some (.int ((x3 * wletters) + (x2 - x2 / wletters * wletters))), some (.int (x4 + (1 : Int32)))] [] h Q) : V G mX6_backward b 7 [some (.ref 3), some (.int x1), some (.int x2), some (.int x3), some (.int x4)] [] h Q := by
  refine V_iload dX6_backward_7 rfl ?_
  refine V_aload_n dX6_backward_9 rfl rfl ?_
  refine V_get (ci := 6) (j := 2) (C0 := RX6) (T := TX6) (N := 5) dX6_backward_10 rfl g3 (by decide) (by decide) kf_X6_23 rfl ?_
  refine V_icmp_ge (t := 43) dX6_backward_13 (by decide) (fun z1 => ?_) (fun z1 => ?_)
  ·
    refine V_iload_n dX6_backward_43 rfl rfl ?_
    exact V_iret dX6_backward_44 rfl (q1 z1)
  ·
    refine V_iload_n dX6_backward_16 rfl rfl ?_
    refine V_aload_n dX6_backward_17 rfl rfl ?_
    refine V_get (ci := 6) (j := 1) (C0 := RX6) (T := TX6) (N := 5) dX6_backward_18 rfl g3 (by decide) (by decide) kf_X6_19 rfl ?_
    refine V_imul dX6_backward_21 ?_
    refine V_iload_n dX6_backward_22 rfl rfl ?_
    refine V_aload_n dX6_backward_23 rfl rfl ?_
    refine V_get (ci := 6) (j := 1) (C0 := RX6) (T := TX6) (N := 5) dX6_backward_24 rfl g3 (by decide) (by decide) kf_X6_19 rfl ?_
    refine V_irem dX6_backward_27 (q2 z1) ?_
    refine V_iadd dX6_backward_28 ?_
    refine V_istore_n dX6_backward_29 rfl (Nat.le_of_ble_eq_true rfl) ?_
    refine V_iload_n dX6_backward_30 rfl rfl ?_
    refine V_aload_n dX6_backward_31 rfl rfl ?_
    refine V_get (ci := 6) (j := 1) (C0 := RX6) (T := TX6) (N := 5) dX6_backward_32 rfl g3 (by decide) (by decide) kf_X6_19 rfl ?_
    refine V_idiv dX6_backward_35 (q3 z1) ?_
    refine V_istore_n dX6_backward_36 rfl (Nat.le_of_ble_eq_true rfl) ?_
    refine V_inc dX6_backward_37 ic_1 rfl (Nat.le_of_ble_eq_true rfl) ?_
    refine V_goto (t := 7) dX6_backward_40 (by decide) ?_
    exact V_sub (by exact (And.intro rfl (And.intro rfl (And.intro rfl (And.intro rfl (And.intro rfl True.intro)))))) (q4 z1)
