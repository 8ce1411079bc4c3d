/-! trees of X4 -/
theorem tX4_drop_0 {G : gx} {b : bg} {h : ah} {Q : Option Value → ah → Prop} {okind : Int32} {ofirstMatch : Int32} (g17 : h 17 = (4, .inl [.ref 3, .ref 18, .ref 19, .int okind, .ref 20, .ref 21, .ref 22, .int ofirstMatch])) (q1 : Q none (va_up h 17 (4, .inl [.ref 3, .ref 18, .ref 19, .int (-1 : Int32), .ref 20, .ref 21, .ref 22, .int ofirstMatch]))) : V G mX4_drop b 0 [some (.ref 17)] [] h Q := by
  refine V_aload_n dX4_drop_0 rfl rfl ?_
  refine V_iconst dX4_drop_1 ic_m1 ?_
  refine V_put (ci := 4) (j := 3) (C0 := RX4) (T := TX4) (N := 8) (ty := .int) dX4_drop_2 rfl g17 (by decide) (by decide) kf_X4_19 rfl (by decide +kernel) rfl rfl (Nat.le_of_ble_eq_true rfl) ?_
  exact V_vret dX4_drop_5 rfl (q1)
theorem tX4_isThere_0 {G : gx} {b : bg} {h : ah} {Q : Option Value → ah → Prop} {okind : Int32} {ofirstMatch : Int32} (g17 : h 17 = (4, .inl [.ref 3, .ref 18, .ref 19, .int okind, .ref 20, .ref 21, .ref 22, .int ofirstMatch])) (q1 : (okind = (-1 : Int32)) → Q (some (.int (0 : Int32))) h) (q2 : (¬ okind = (-1 : Int32)) → Q (some (.int (1 : Int32))) h) : V G mX4_isThere b 0 [some (.ref 17)] [] h Q := by
  refine V_aload_n dX4_isThere_0 rfl rfl ?_
  refine V_get (ci := 4) (j := 3) (C0 := RX4) (T := TX4) (N := 8) dX4_isThere_1 rfl g17 (by decide) (by decide) kf_X4_19 rfl ?_
  refine V_iconst dX4_isThere_4 ic_m1 ?_
  refine V_icmp_eq (t := 12) dX4_isThere_5 (by decide) (fun z1 => ?_) (fun z1 => ?_)
  ·
    refine V_iconst dX4_isThere_12 ic_0 ?_
    exact V_zret dX4_isThere_13 rfl rfl (q1 z1)
  ·
    refine V_iconst dX4_isThere_8 ic_1 ?_
    refine V_goto (t := 13) dX4_isThere_9 (by decide) ?_
    exact V_zret dX4_isThere_13 rfl rfl (q2 z1)
theorem tX4_isPlace_0 {G : gx} {b : bg} {h : ah} {Q : Option Value → ah → Prop} {x1 : Int32} (q1 : V G mX4_isPlace b 1 [some (.ref 17), some (.int x1)] [.ref 17] h Q) : V G mX4_isPlace b 0 [some (.ref 17), some (.int x1)] [] h Q := by
  refine V_aload_n dX4_isPlace_0 rfl rfl ?_
  exact V_sub (by exact (And.intro rfl (And.intro rfl True.intro))) (q1)
theorem tX4_isPlace_4 {G : gx} {b : bg} {h : ah} {Q : Option Value → ah → Prop} {x1 : Int32} {s0 : Int32} {okind : Int32} {ofirstMatch : Int32} (g17 : h 17 = (4, .inl [.ref 3, .ref 18, .ref 19, .int okind, .ref 20, .ref 21, .ref 22, .int ofirstMatch])) (q1 : (s0 = (0 : Int32)) → Q (some (.int (0 : Int32))) h) (q2 : (¬ s0 = (0 : Int32)) → V G mX4_isPlace b 12 [some (.ref 17), some (.int x1)] [.int x1, .ref 3] h Q) : V G mX4_isPlace b 4 [some (.ref 17), some (.int x1)] [.int s0] h Q := by
  refine V_if_eq (t := 22) dX4_isPlace_4 (by decide) (fun z1 => ?_) (fun z1 => ?_)
  ·
    refine V_iconst dX4_isPlace_22 ic_0 ?_
    exact V_zret dX4_isPlace_23 rfl rfl (q1 z1)
  ·
    refine V_aload_n dX4_isPlace_7 rfl rfl ?_
    refine V_get (ci := 4) (j := 0) (C0 := RX4) (T := TX4) (N := 8) dX4_isPlace_8 rfl g17 (by decide) (by decide) kf_X4_36 rfl ?_
    refine V_iload_n dX4_isPlace_11 rfl rfl ?_
    exact V_sub (by exact (And.intro rfl (And.intro rfl True.intro))) (q2 z1)
theorem tX4_isPlace_15 {G : gx} {b : bg} {h : ah} {Q : Option Value → ah → Prop} {x1 : Int32} {s0 : Int32} (q1 : (s0 = (0 : Int32)) → Q (some (.int (0 : Int32))) h) (q2 : (¬ s0 = (0 : Int32)) → Q (some (.int (1 : Int32))) h) : V G mX4_isPlace b 15 [some (.ref 17), some (.int x1)] [.int s0] h Q := by
  refine V_if_eq (t := 22) dX4_isPlace_15 (by decide) (fun z1 => ?_) (fun z1 => ?_)
  ·
    refine V_iconst dX4_isPlace_22 ic_0 ?_
    exact V_zret dX4_isPlace_23 rfl rfl (q1 z1)
  ·
    refine V_iconst dX4_isPlace_18 ic_1 ?_
    refine V_goto (t := 23) dX4_isPlace_19 (by decide) ?_
    exact V_zret dX4_isPlace_23 rfl rfl (q2 z1)
theorem cX4_isPlace_1 {G : gx} {d mc ms cc zz d2 mc2 ms2 : Nat} {L : List (Option Value)} {S : List Value} {h : ah} {Q Q2 : Option Value → ah → Prop} {k : Nat} {fs : List Value} (hM : Ct G mX4_isThere d2 mc2 ms2 (.ref (k + 2) :: []) h Q2) (hc : h (k + 2) = (4, .inl fs)) (hdd : d2 < d ∧ d ≤ 9) (hrm : (S.map fun v => v.category).sum ≤ 8) (hf : cc + mc2 ≤ mc ∧ zz + ms2 ≤ ms) (kk : ∀ r h2, Q2 r h2 → V G mX4_isPlace (d, mc, ms, cc + mc2, zz + ms2) 4 L (r.toList ++ S) h2 Q) : V G mX4_isPlace (d, mc, ms, cc, zz) 1 L (.ref (k + 2) :: S) h Q := V_callV (ci := 4) (T := TX4) (N := 8) hM dX4_isPlace_1 ⟨km_X4_40, ki_X4_isThere, ks_X4_isThere⟩ cw_X4_isThere rfl hc (by decide) hdd rfl rfl hrm hf kk
theorem cX4_isPlace_12 {G : gx} {d mc ms cc zz d2 mc2 ms2 : Nat} {L : List (Option Value)} {S : List Value} {h : ah} {Q Q2 : Option Value → ah → Prop} {k : Nat} {fs : List Value} {a0 : Value} (hM : Ct G mX6_has d2 mc2 ms2 (.ref (k + 2) :: [a0]) h Q2) (hc : h (k + 2) = (6, .inl fs)) (hdd : d2 < d ∧ d ≤ 9) (hrm : (S.map fun v => v.category).sum ≤ 8) (hf : cc + mc2 ≤ mc ∧ zz + ms2 ≤ ms) (kk : ∀ r h2, Q2 r h2 → V G mX4_isPlace (d, mc, ms, cc + mc2, zz + ms2) 15 L (r.toList ++ S) h2 Q) : V G mX4_isPlace (d, mc, ms, cc, zz) 12 L (a0 :: .ref (k + 2) :: S) h Q := V_callVN (ci := 6) (T := TX6) (N := 5) hM dX4_isPlace_12 ⟨km_X4_44, ki_X6_has, ks_X6_has⟩ cw_X6_has rfl hc (by decide) hdd rfl rfl hrm hf kk
theorem tX4_becomeLeast_0 {G : gx} {b : bg} {h : ah} {Q : Option Value → ah → Prop} {okind : Int32} {ofirstMatch : Int32} {orow : Nat → Int32} (g17 : h 17 = (4, .inl [.ref 3, .ref 18, .ref 19, .int okind, .ref 20, .ref 21, .ref 22, .int ofirstMatch])) (g20 : h 20 = (0, .inr (14, .inl orow))) (q1 : vp_in (0 : Int32) 14) (q2 : V G mX4_becomeLeast b 13 [some (.ref 17), some (.int (0 : Int32)), some (.int (1 : Int32)), some (.int (0 : Int32))] [] (va_up h 20 (0, .inr (14, .inl (upd orow (0 : Int32).toNatClampNeg (0 : Int32))))) Q) : V G mX4_becomeLeast b 0 [some (.ref 17)] [] h Q := by
  refine V_iconst dX4_becomeLeast_0 ic_0 ?_
  refine V_istore_n dX4_becomeLeast_1 rfl (Nat.le_of_ble_eq_true rfl) ?_
  refine V_iconst dX4_becomeLeast_2 ic_1 ?_
  refine V_istore_n dX4_becomeLeast_3 rfl (Nat.le_of_ble_eq_true rfl) ?_
  refine V_aload_n dX4_becomeLeast_4 rfl rfl ?_
  refine V_get (ci := 4) (j := 4) (C0 := RX4) (T := TX4) (N := 8) dX4_becomeLeast_5 rfl g17 (by decide) (by decide) kf_X4_23 rfl ?_
  refine V_iconst dX4_becomeLeast_8 ic_0 ?_
  refine V_iconst dX4_becomeLeast_9 ic_0 ?_
  refine V_iast dX4_becomeLeast_10 g20 (q1) ?_
  refine V_iconst dX4_becomeLeast_11 ic_0 ?_
  refine V_istore_n dX4_becomeLeast_12 rfl (Nat.le_of_ble_eq_true rfl) ?_
  exact V_sub (by exact (And.intro rfl (And.intro rfl (And.intro rfl (And.intro rfl True.intro))))) (q2)
theorem tX4_becomeLeast_13 {G : gx} {b : bg} {h : ah} {Q : Option Value → ah → Prop} {x1 : Int32} {x2 : Int32} {x3 : Int32} {okind : Int32} {ofirstMatch : Int32} {wletters : Int32} {wlength : Int32} {wall : Int32} {whigh : Int32} (g17 : h 17 = (4, .inl [.ref 3, .ref 18, .ref 19, .int okind, .ref 20, .ref 21, .ref 22, .int ofirstMatch])) (g3 : h 3 = (6, .inl [.ref 4, .int wletters, .int wlength, .int wall, .int whigh])) (q1 : ((40000 : Int32) ≤ x3) → V G mX4_becomeLeast b 96 [some (.ref 17), some (.int x1), some (.int x2), some (.int x3)] [.ref 17] (va_up h 17 (4, .inl [.ref 3, .ref 18, .ref 19, .int (0 : Int32), .ref 20, .ref 21, .ref 22, .int ofirstMatch])) Q) (q2 : (¬ (40000 : Int32) ≤ x3) → (x2 ≤ (0 : Int32)) → V G mX4_becomeLeast b 96 [some (.ref 17), some (.int x1), some (.int x2), some (.int x3)] [.ref 17] (va_up h 17 (4, .inl [.ref 3, .ref 18, .ref 19, .int (0 : Int32), .ref 20, .ref 21, .ref 22, .int ofirstMatch])) Q) (q3 : (¬ (40000 : Int32) ≤ x3) → (¬ x2 ≤ (0 : Int32)) → ¬ x2 = 0) (q4 : (¬ (40000 : Int32) ≤ x3) → (¬ x2 ≤ (0 : Int32)) → (¬ (wlength - wlength / x2 * x2) = (0 : Int32)) → V G mX4_becomeLeast b 80 [some (.ref 17), some (.int x1), some (.int x2), some (.int x3)] [.int x2, .ref 17] h Q) (q5 : (¬ (40000 : Int32) ≤ x3) → (¬ x2 ≤ (0 : Int32)) → ((wlength - wlength / x2 * x2) = (0 : Int32)) → V G mX4_becomeLeast b 38 [some (.ref 17), some (.int x1), some (.int x2), some (.int x3), some (.int (0 : Int32))] [] h Q) : V G mX4_becomeLeast b 13 [some (.ref 17), some (.int x1), some (.int x2), some (.int x3)] [] h Q := by
  refine V_iload_n dX4_becomeLeast_13 rfl rfl ?_
  refine V_ldc dX4_becomeLeast_14 kk_X4_50 ?_
  refine V_icmp_ge (t := 90) dX4_becomeLeast_16 (by decide) (fun z1 => ?_) (fun z1 => ?_)
  ·
    refine V_aload_n dX4_becomeLeast_90 rfl rfl ?_
    refine V_iconst dX4_becomeLeast_91 ic_0 ?_
    refine V_put (ci := 4) (j := 3) (C0 := RX4) (T := TX4) (N := 8) (ty := .int) dX4_becomeLeast_92 rfl g17 (by decide) (by decide) kf_X4_19 rfl (by decide +kernel) rfl rfl (Nat.le_of_ble_eq_true rfl) ?_
    refine V_aload_n dX4_becomeLeast_95 rfl rfl ?_
    exact V_sub (by exact (And.intro rfl (And.intro rfl (And.intro rfl (And.intro rfl True.intro))))) (q1 z1)
  ·
    refine V_iload_n dX4_becomeLeast_19 rfl rfl ?_
    refine V_if_le (t := 90) dX4_becomeLeast_20 (by decide) (fun z2 => ?_) (fun z2 => ?_)
    ·
      refine V_aload_n dX4_becomeLeast_90 rfl rfl ?_
      refine V_iconst dX4_becomeLeast_91 ic_0 ?_
      refine V_put (ci := 4) (j := 3) (C0 := RX4) (T := TX4) (N := 8) (ty := .int) dX4_becomeLeast_92 rfl g17 (by decide) (by decide) kf_X4_19 rfl (by decide +kernel) rfl rfl (Nat.le_of_ble_eq_true rfl) ?_
      refine V_aload_n dX4_becomeLeast_95 rfl rfl ?_
      exact V_sub (by exact (And.intro rfl (And.intro rfl (And.intro rfl (And.intro rfl True.intro))))) (q2 z1 z2)
    ·
      refine V_aload_n dX4_becomeLeast_23 rfl rfl ?_
      refine V_get (ci := 4) (j := 0) (C0 := RX4) (T := TX4) (N := 8) dX4_becomeLeast_24 rfl g17 (by decide) (by decide) kf_X4_36 rfl ?_
      refine V_getN (ci := 6) (j := 2) (C0 := RX6) (T := TX6) (N := 5) dX4_becomeLeast_27 rfl g3 (by decide) (by decide) kf_X4_51 rfl ?_
      refine V_iload_n dX4_becomeLeast_30 rfl rfl ?_
      refine V_irem dX4_becomeLeast_31 (q3 z1 z2) ?_
      refine V_if_ne (t := 78) dX4_becomeLeast_32 (by decide) (fun z3 => ?_) (fun z3 => ?_)
      ·
        refine V_aload_n dX4_becomeLeast_78 rfl rfl ?_
        refine V_iload_n dX4_becomeLeast_79 rfl rfl ?_
        exact V_sub (by exact (And.intro rfl (And.intro rfl (And.intro rfl (And.intro rfl True.intro))))) (q4 z1 z2 z3)
      ·
        refine V_iconst dX4_becomeLeast_35 ic_0 ?_
        refine V_istore dX4_becomeLeast_36 (Nat.le_of_ble_eq_true rfl) ?_
        exact V_sub (by exact (And.intro rfl (And.intro rfl (And.intro rfl (And.intro rfl (And.intro rfl True.intro)))))) (q5 z1 z2 z3)
theorem tX4_becomeLeast_38 {G : gx} {b : bg} {h : ah} {Q : Option Value → ah → Prop} {x1 : Int32} {x2 : Int32} {x3 : Int32} {x4 : Int32} {okind : Int32} {ofirstMatch : Int32} {wletters : Int32} {wlength : Int32} {wall : Int32} {whigh : Int32} {orow : Nat → Int32} {olet : Nat → Int32} (g17 : h 17 = (4, .inl [.ref 3, .ref 18, .ref 19, .int okind, .ref 20, .ref 21, .ref 22, .int ofirstMatch])) (g3 : h 3 = (6, .inl [.ref 4, .int wletters, .int wlength, .int wall, .int whigh])) (g20 : h 20 = (0, .inr (14, .inl orow))) (g18 : h 18 = (1, .inr (20000, .inl olet))) (q1 : (x2 ≤ x4) → V G mX4_becomeLeast b 80 [some (.ref 17), some (.int x1), some (.int x2), some (.int x3)] [.int x2, .ref 17] h Q) (q2 : (¬ x2 ≤ x4) → (wall ≤ x1) → V G mX4_becomeLeast b 80 [some (.ref 17), some (.int x1), some (.int x2), some (.int x3)] [.int x2, .ref 17] h Q) (q3 : (¬ x2 ≤ x4) → (¬ wall ≤ x1) → vp_in x4 14) (q4 : (¬ x2 ≤ x4) → (¬ wall ≤ x1) → vp_in x1 20000) (q5 : (¬ x2 ≤ x4) → (¬ wall ≤ x1) → V G mX4_becomeLeast b 38 [some (.ref 17), some (.int (x1 + (1 : Int32))), some (.int x2), some (.int x3), some (.int (x4 + (1 : Int32)))] [] (va_up h 18 (1, .inr (20000, .inl (upd olet x1.toNatClampNeg (vp_nar .byte ((orow x4.toNatClampNeg).toInt8.toInt32)))))) Q) : V G mX4_becomeLeast b 38 [some (.ref 17), some (.int x1), some (.int x2), some (.int x3), some (.int x4)] [] h Q := by
  refine V_iload dX4_becomeLeast_38 rfl ?_
  refine V_iload_n dX4_becomeLeast_40 rfl rfl ?_
  refine V_icmp_ge (t := 78) dX4_becomeLeast_41 (by decide) (fun z1 => ?_) (fun z1 => ?_)
  ·
    refine V_aload_n dX4_becomeLeast_78 rfl rfl ?_
    refine V_iload_n dX4_becomeLeast_79 rfl rfl ?_
    exact V_sub (by exact (And.intro rfl (And.intro rfl (And.intro rfl (And.intro rfl True.intro))))) (q1 z1)
  ·
    refine V_iload_n dX4_becomeLeast_44 rfl rfl ?_
    refine V_aload_n dX4_becomeLeast_45 rfl rfl ?_
    refine V_get (ci := 4) (j := 0) (C0 := RX4) (T := TX4) (N := 8) dX4_becomeLeast_46 rfl g17 (by decide) (by decide) kf_X4_36 rfl ?_
    refine V_getN (ci := 6) (j := 3) (C0 := RX6) (T := TX6) (N := 5) dX4_becomeLeast_49 rfl g3 (by decide) (by decide) kf_X4_54 rfl ?_
    refine V_icmp_ge (t := 78) dX4_becomeLeast_52 (by decide) (fun z2 => ?_) (fun z2 => ?_)
    ·
      refine V_aload_n dX4_becomeLeast_78 rfl rfl ?_
      refine V_iload_n dX4_becomeLeast_79 rfl rfl ?_
      exact V_sub (by exact (And.intro rfl (And.intro rfl (And.intro rfl (And.intro rfl True.intro))))) (q2 z1 z2)
    ·
      refine V_aload_n dX4_becomeLeast_55 rfl rfl ?_
      refine V_get (ci := 4) (j := 1) (C0 := RX4) (T := TX4) (N := 8) dX4_becomeLeast_56 rfl g17 (by decide) (by decide) kf_X4_9 rfl ?_
      refine V_iload_n dX4_becomeLeast_59 rfl rfl ?_
      refine V_aload_n dX4_becomeLeast_60 rfl rfl ?_
      refine V_get (ci := 4) (j := 4) (C0 := RX4) (T := TX4) (N := 8) dX4_becomeLeast_61 rfl g17 (by decide) (by decide) kf_X4_23 rfl ?_
      refine V_iload dX4_becomeLeast_64 rfl ?_
      refine V_iald dX4_becomeLeast_66 g20 (q3 z1 z2) ?_
      refine V_i2b dX4_becomeLeast_67 ?_
      refine V_bast dX4_becomeLeast_68 g18 (q4 z1 z2) ?_
      refine V_inc dX4_becomeLeast_69 ic_1 rfl (Nat.le_of_ble_eq_true rfl) ?_
      refine V_inc dX4_becomeLeast_72 ic_1 rfl (Nat.le_of_ble_eq_true rfl) ?_
      refine V_goto (t := 38) dX4_becomeLeast_75 (by decide) ?_
      exact V_sub (by exact (And.intro rfl (And.intro rfl (And.intro rfl (And.intro rfl (And.intro rfl True.intro)))))) (q5 z1 z2)
theorem tX4_becomeLeast_83 {G : gx} {b : bg} {h : ah} {Q : Option Value → ah → Prop} {x1 : Int32} {x2 : Int32} {x3 : Int32} {s0 : Int32} (q1 : V G mX4_becomeLeast b 13 [some (.ref 17), some (.int x1), some (.int s0), some (.int (x3 + (1 : Int32)))] [] h Q) : V G mX4_becomeLeast b 83 [some (.ref 17), some (.int x1), some (.int x2), some (.int x3)] [.int s0] h Q := by
  refine V_istore_n dX4_becomeLeast_83 rfl (Nat.le_of_ble_eq_true rfl) ?_
  refine V_inc dX4_becomeLeast_84 ic_1 rfl (Nat.le_of_ble_eq_true rfl) ?_
  refine V_goto (t := 13) dX4_becomeLeast_87 (by decide) ?_
  exact V_sub (by exact (And.intro rfl (And.intro rfl (And.intro rfl (And.intro rfl True.intro))))) (q1)
theorem tX4_becomeLeast_99 {G : gx} {b : bg} {h : ah} {Q : Option Value → ah → Prop} {x1 : Int32} {x2 : Int32} {x3 : Int32} (q1 : Q none h) : V G mX4_becomeLeast b 99 [some (.ref 17), some (.int x1), some (.int x2), some (.int x3)] [] h Q := by
  exact V_vret dX4_becomeLeast_99 rfl (q1)
theorem cX4_becomeLeast_80 {G : gx} {d mc ms cc zz d2 mc2 ms2 : Nat} {L : List (Option Value)} {S : List Value} {h : ah} {Q Q2 : Option Value → ah → Prop} {k : Nat} {fs : List Value} {a0 : Value} (hM : Ct G mX4_nextRow d2 mc2 ms2 (.ref (k + 2) :: [a0]) h Q2) (hc : h (k + 2) = (4, .inl fs)) (hdd : d2 < d ∧ d ≤ 9) (hrm : (S.map fun v => v.category).sum ≤ 8) (hf : cc + mc2 ≤ mc ∧ zz + ms2 ≤ ms) (kk : ∀ r h2, Q2 r h2 → V G mX4_becomeLeast (d, mc, ms, cc + mc2, zz + ms2) 83 L (r.toList ++ S) h2 Q) : V G mX4_becomeLeast (d, mc, ms, cc, zz) 80 L (a0 :: .ref (k + 2) :: S) h Q := V_callV (ci := 4) (T := TX4) (N := 8) hM dX4_becomeLeast_80 ⟨km_X4_57, ki_X4_nextRow, ks_X4_nextRow⟩ cw_X4_nextRow rfl hc (by decide) hdd rfl rfl hrm hf kk
theorem cX4_becomeLeast_96 {G : gx} {d mc ms cc zz d2 mc2 ms2 : Nat} {L : List (Option Value)} {S : List Value} {h : ah} {Q Q2 : Option Value → ah → Prop} {k : Nat} {fs : List Value} (hM : Ct G mX4_findPlaces d2 mc2 ms2 (.ref (k + 2) :: []) h Q2) (hc : h (k + 2) = (4, .inl fs)) (hdd : d2 < d ∧ d ≤ 9) (hrm : (S.map fun v => v.category).sum ≤ 8) (hf : cc + mc2 ≤ mc ∧ zz + ms2 ≤ ms) (kk : ∀ r h2, Q2 r h2 → V G mX4_becomeLeast (d, mc, ms, cc + mc2, zz + ms2) 99 L (r.toList ++ S) h2 Q) : V G mX4_becomeLeast (d, mc, ms, cc, zz) 96 L (.ref (k + 2) :: S) h Q := V_callV (ci := 4) (T := TX4) (N := 8) hM dX4_becomeLeast_96 ⟨km_X4_61, ki_X4_findPlaces, ks_X4_findPlaces⟩ cw_X4_findPlaces rfl hc (by decide) hdd rfl rfl hrm hf kk
theorem tX4_nextRow_0 {G : gx} {b : bg} {h : ah} {Q : Option Value → ah → Prop} {x1 : Int32} (q1 : V G mX4_nextRow b 2 [some (.ref 17), some (.int x1), some (.int x1)] [] h Q) : V G mX4_nextRow b 0 [some (.ref 17), some (.int x1)] [] h Q := by
  refine V_iload_n dX4_nextRow_0 rfl rfl ?_
  refine V_istore_n dX4_nextRow_1 rfl (Nat.le_of_ble_eq_true rfl) ?_
  exact V_sub (by exact (And.intro rfl (And.intro rfl (And.intro rfl True.intro)))) (q1)
theorem tX4_nextRow_2 {G : gx} {b : bg} {h : ah} {Q : Option Value → ah → Prop} {x1 : Int32} {x2 : Int32} {okind : Int32} {ofirstMatch : Int32} {wletters : Int32} {wlength : Int32} {wall : Int32} {whigh : Int32} {orow : Nat → Int32} (g17 : h 17 = (4, .inl [.ref 3, .ref 18, .ref 19, .int okind, .ref 20, .ref 21, .ref 22, .int ofirstMatch])) (g3 : h 3 = (6, .inl [.ref 4, .int wletters, .int wlength, .int wall, .int whigh])) (g20 : h 20 = (0, .inr (14, .inl orow))) (q1 : (wlength ≤ x2) → V G mX4_nextRow b 41 [some (.ref 17), some (.int x1), some (.int wlength)] [] h Q) (q2 : (¬ wlength ≤ x2) → vp_in (x2 - x1) 14) (q3 : (¬ wlength ≤ x2) → vp_in x2 14) (q4 : (¬ wlength ≤ x2) → V G mX4_nextRow b 2 [some (.ref 17), some (.int x1), some (.int (x2 + (1 : Int32)))] [] (va_up h 20 (0, .inr (14, .inl (upd orow x2.toNatClampNeg (orow (x2 - x1).toNatClampNeg))))) Q) : V G mX4_nextRow b 2 [some (.ref 17), some (.int x1), some (.int x2)] [] h Q := by
  refine V_iload_n dX4_nextRow_2 rfl rfl ?_
  refine V_aload_n dX4_nextRow_3 rfl rfl ?_
  refine V_get (ci := 4) (j := 0) (C0 := RX4) (T := TX4) (N := 8) dX4_nextRow_4 rfl g17 (by decide) (by decide) kf_X4_36 rfl ?_
  refine V_getN (ci := 6) (j := 2) (C0 := RX6) (T := TX6) (N := 5) dX4_nextRow_7 rfl g3 (by decide) (by decide) kf_X4_51 rfl ?_
  refine V_icmp_ge (t := 33) dX4_nextRow_10 (by decide) (fun z1 => ?_) (fun z1 => ?_)
  ·
    refine V_aload_n dX4_nextRow_33 rfl rfl ?_
    refine V_get (ci := 4) (j := 0) (C0 := RX4) (T := TX4) (N := 8) dX4_nextRow_34 rfl g17 (by decide) (by decide) kf_X4_36 rfl ?_
    refine V_getN (ci := 6) (j := 2) (C0 := RX6) (T := TX6) (N := 5) dX4_nextRow_37 rfl g3 (by decide) (by decide) kf_X4_51 rfl ?_
    refine V_istore_n dX4_nextRow_40 rfl (Nat.le_of_ble_eq_true rfl) ?_
    exact V_sub (by exact (And.intro rfl (And.intro rfl (And.intro rfl True.intro)))) (q1 z1)
  ·
    refine V_aload_n dX4_nextRow_13 rfl rfl ?_
    refine V_get (ci := 4) (j := 4) (C0 := RX4) (T := TX4) (N := 8) dX4_nextRow_14 rfl g17 (by decide) (by decide) kf_X4_23 rfl ?_
    refine V_iload_n dX4_nextRow_17 rfl rfl ?_
    refine V_aload_n dX4_nextRow_18 rfl rfl ?_
    refine V_get (ci := 4) (j := 4) (C0 := RX4) (T := TX4) (N := 8) dX4_nextRow_19 rfl g17 (by decide) (by decide) kf_X4_23 rfl ?_
    refine V_iload_n dX4_nextRow_22 rfl rfl ?_
    refine V_iload_n dX4_nextRow_23 rfl rfl ?_
    refine V_isub dX4_nextRow_24 ?_
    refine V_iald dX4_nextRow_25 g20 (q2 z1) ?_
    refine V_iast dX4_nextRow_26 g20 (q3 z1) ?_
    refine V_inc dX4_nextRow_27 ic_1 rfl (Nat.le_of_ble_eq_true rfl) ?_
    refine V_goto (t := 2) dX4_nextRow_30 (by decide) ?_
    exact V_sub (by exact (And.intro rfl (And.intro rfl (And.intro rfl True.intro)))) (q4 z1)
theorem tX4_nextRow_41 {G : gx} {b : bg} {h : ah} {Q : Option Value → ah → Prop} {x1 : Int32} {x2 : Int32} {okind : Int32} {ofirstMatch : Int32} {orow : Nat → Int32} {wletters : Int32} {wlength : Int32} {wall : Int32} {whigh : Int32} (g17 : h 17 = (4, .inl [.ref 3, .ref 18, .ref 19, .int okind, .ref 20, .ref 21, .ref 22, .int ofirstMatch])) (g20 : h 20 = (0, .inr (14, .inl orow))) (g3 : h 3 = (6, .inl [.ref 4, .int wletters, .int wlength, .int wall, .int whigh])) (q1 : (x2 ≤ (0 : Int32)) → (x2 ≤ (0 : Int32)) → Q (some (.int x2)) h) (q2 : (x2 ≤ (0 : Int32)) → (¬ x2 ≤ (0 : Int32)) → vp_in (x2 - (1 : Int32)) 14) (q3 : (x2 ≤ (0 : Int32)) → (¬ x2 ≤ (0 : Int32)) → vp_in (x2 - (1 : Int32)) 14) (q4 : (x2 ≤ (0 : Int32)) → (¬ x2 ≤ (0 : Int32)) → Q (some (.int x2)) (va_up h 20 (0, .inr (14, .inl (upd orow (x2 - (1 : Int32)).toNatClampNeg ((orow (x2 - (1 : Int32)).toNatClampNeg) + (1 : Int32))))))) (q5 : (¬ x2 ≤ (0 : Int32)) → vp_in (x2 - (1 : Int32)) 14) (q6 : (¬ x2 ≤ (0 : Int32)) → (¬ (orow (x2 - (1 : Int32)).toNatClampNeg) = (wletters - (1 : Int32))) → (x2 ≤ (0 : Int32)) → Q (some (.int x2)) h) (q7 : (¬ x2 ≤ (0 : Int32)) → (¬ (orow (x2 - (1 : Int32)).toNatClampNeg) = (wletters - (1 : Int32))) → (¬ x2 ≤ (0 : Int32)) → vp_in (x2 - (1 : Int32)) 14) (q8 : (¬ x2 ≤ (0 : Int32)) → (¬ (orow (x2 - (1 : Int32)).toNatClampNeg) = (wletters - (1 : Int32))) → (¬ x2 ≤ (0 : Int32)) → vp_in (x2 - (1 : Int32)) 14) (q9 : (¬ x2 ≤ (0 : Int32)) → (¬ (orow (x2 - (1 : Int32)).toNatClampNeg) = (wletters - (1 : Int32))) → (¬ x2 ≤ (0 : Int32)) → Q (some (.int x2)) (va_up h 20 (0, .inr (14, .inl (upd orow (x2 - (1 : Int32)).toNatClampNeg ((orow (x2 - (1 : Int32)).toNatClampNeg) + (1 : Int32))))))) (q10 : (¬ x2 ≤ (0 : Int32)) → ((orow (x2 - (1 : Int32)).toNatClampNeg) = (wletters - (1 : Int32))) → V G mX4_nextRow b 41 [some (.ref 17), some (.int x1), some (.int (x2 + (-1 : Int32)))] [] h Q) : V G mX4_nextRow b 41 [some (.ref 17), some (.int x1), some (.int x2)] [] h Q := by
  refine V_iload_n dX4_nextRow_41 rfl rfl ?_
  refine V_if_le (t := 71) dX4_nextRow_42 (by decide) (fun z1 => ?_) (fun z1 => ?_)
  ·
    refine V_iload_n dX4_nextRow_71 rfl rfl ?_
    refine V_if_le (t := 87) dX4_nextRow_72 (by decide) (fun z2 => ?_) (fun z2 => ?_)
    ·
      refine V_iload_n dX4_nextRow_87 rfl rfl ?_
      exact V_iret dX4_nextRow_88 rfl (q1 z1 z2)
    ·
      refine V_aload_n dX4_nextRow_75 rfl rfl ?_
      refine V_get (ci := 4) (j := 4) (C0 := RX4) (T := TX4) (N := 8) dX4_nextRow_76 rfl g17 (by decide) (by decide) kf_X4_23 rfl ?_
      refine V_iload_n dX4_nextRow_79 rfl rfl ?_
      refine V_iconst dX4_nextRow_80 ic_1 ?_
      refine V_isub dX4_nextRow_81 ?_
      refine V_dup2 dX4_nextRow_82 rfl rfl ?_
      refine V_iald dX4_nextRow_83 g20 (q2 z1 z2) ?_
      refine V_iconst dX4_nextRow_84 ic_1 ?_
      refine V_iadd dX4_nextRow_85 ?_
      refine V_iast dX4_nextRow_86 g20 (q3 z1 z2) ?_
      refine V_iload_n dX4_nextRow_87 rfl rfl ?_
      exact V_iret dX4_nextRow_88 rfl (q4 z1 z2)
  ·
    refine V_aload_n dX4_nextRow_45 rfl rfl ?_
    refine V_get (ci := 4) (j := 4) (C0 := RX4) (T := TX4) (N := 8) dX4_nextRow_46 rfl g17 (by decide) (by decide) kf_X4_23 rfl ?_
    refine V_iload_n dX4_nextRow_49 rfl rfl ?_
    refine V_iconst dX4_nextRow_50 ic_1 ?_
    refine V_isub dX4_nextRow_51 ?_
    refine V_iald dX4_nextRow_52 g20 (q5 z1) ?_
    refine V_aload_n dX4_nextRow_53 rfl rfl ?_
    refine V_get (ci := 4) (j := 0) (C0 := RX4) (T := TX4) (N := 8) dX4_nextRow_54 rfl g17 (by decide) (by decide) kf_X4_36 rfl ?_
    refine V_getN (ci := 6) (j := 1) (C0 := RX6) (T := TX6) (N := 5) dX4_nextRow_57 rfl g3 (by decide) (by decide) kf_X4_64 rfl ?_
    refine V_iconst dX4_nextRow_60 ic_1 ?_
    refine V_isub dX4_nextRow_61 ?_
    refine V_icmp_ne (t := 71) dX4_nextRow_62 (by decide) (fun z3 => ?_) (fun z3 => ?_)
    ·
      refine V_iload_n dX4_nextRow_71 rfl rfl ?_
      refine V_if_le (t := 87) dX4_nextRow_72 (by decide) (fun z4 => ?_) (fun z4 => ?_)
      ·
        refine V_iload_n dX4_nextRow_87 rfl rfl ?_
        exact V_iret dX4_nextRow_88 rfl (q6 z1 z3 z4)
      ·
        refine V_aload_n dX4_nextRow_75 rfl rfl ?_
        refine V_get (ci := 4) (j := 4) (C0 := RX4) (T := TX4) (N := 8) dX4_nextRow_76 rfl g17 (by decide) (by decide) kf_X4_23 rfl ?_
        refine V_iload_n dX4_nextRow_79 rfl rfl ?_
        refine V_iconst dX4_nextRow_80 ic_1 ?_
        refine V_isub dX4_nextRow_81 ?_
        refine V_dup2 dX4_nextRow_82 rfl rfl ?_
        refine V_iald dX4_nextRow_83 g20 (q7 z1 z3 z4) ?_
        refine V_iconst dX4_nextRow_84 ic_1 ?_
        refine V_iadd dX4_nextRow_85 ?_
        refine V_iast dX4_nextRow_86 g20 (q8 z1 z3 z4) ?_
        refine V_iload_n dX4_nextRow_87 rfl rfl ?_
        exact V_iret dX4_nextRow_88 rfl (q9 z1 z3 z4)
    ·
      refine V_inc dX4_nextRow_65 ic_m1 rfl (Nat.le_of_ble_eq_true rfl) ?_
      refine V_goto (t := 41) dX4_nextRow_68 (by decide) ?_
      exact V_sub (by exact (And.intro rfl (And.intro rfl (And.intro rfl True.intro)))) (q10 z1 z3)
theorem tX4_findPlaces_0 {G : gx} {b : bg} {h : ah} {Q : Option Value → ah → Prop} {okind : Int32} {ofirstMatch : Int32} {wletters : Int32} {wlength : Int32} {wall : Int32} {whigh : Int32} (g17 : h 17 = (4, .inl [.ref 3, .ref 18, .ref 19, .int okind, .ref 20, .ref 21, .ref 22, .int ofirstMatch])) (g3 : h 3 = (6, .inl [.ref 4, .int wletters, .int wlength, .int wall, .int whigh])) (q1 : V G mX4_findPlaces b 12 [some (.ref 17), some (.int (0 : Int32)), some (.int wlength), some (.int (0 : Int32))] [] h Q) : V G mX4_findPlaces b 0 [some (.ref 17)] [] h Q := by
  refine V_iconst dX4_findPlaces_0 ic_0 ?_
  refine V_istore_n dX4_findPlaces_1 rfl (Nat.le_of_ble_eq_true rfl) ?_
  refine V_aload_n dX4_findPlaces_2 rfl rfl ?_
  refine V_get (ci := 4) (j := 0) (C0 := RX4) (T := TX4) (N := 8) dX4_findPlaces_3 rfl g17 (by decide) (by decide) kf_X4_36 rfl ?_
  refine V_getN (ci := 6) (j := 2) (C0 := RX6) (T := TX6) (N := 5) dX4_findPlaces_6 rfl g3 (by decide) (by decide) kf_X4_51 rfl ?_
  refine V_istore_n dX4_findPlaces_9 rfl (Nat.le_of_ble_eq_true rfl) ?_
  refine V_iconst dX4_findPlaces_10 ic_0 ?_
  refine V_istore_n dX4_findPlaces_11 rfl (Nat.le_of_ble_eq_true rfl) ?_
  exact V_sub (by exact (And.intro rfl (And.intro rfl (And.intro rfl (And.intro rfl True.intro))))) (q1)
theorem tX4_findPlaces_12 {G : gx} {b : bg} {h : ah} {Q : Option Value → ah → Prop} {x1 : Int32} {x2 : Int32} {x3 : Int32} {okind : Int32} {ofirstMatch : Int32} {wletters : Int32} {wlength : Int32} {wall : Int32} {whigh : Int32} {oplace : Nat → Int32} {olet : Nat → Int32} (g17 : h 17 = (4, .inl [.ref 3, .ref 18, .ref 19, .int okind, .ref 20, .ref 21, .ref 22, .int ofirstMatch])) (g3 : h 3 = (6, .inl [.ref 4, .int wletters, .int wlength, .int wall, .int whigh])) (g19 : h 19 = (0, .inr (20000, .inl oplace))) (g18 : h 18 = (1, .inr (20000, .inl olet))) (q1 : (wall ≤ x3) → Q none h) (q2 : (¬ wall ≤ x3) → vp_in x1 20000) (q3 : (¬ wall ≤ x3) → ¬ whigh = 0) (q4 : (¬ wall ≤ x3) → vp_in x2 20000) (q5 : (¬ wall ≤ x3) → (wall ≤ (x2 + (1 : Int32))) → V G mX4_findPlaces b 12 [some (.ref 17), some (.int (((x1 - x1 / whigh * whigh) * wletters) + (olet x2.toNatClampNeg))), some (.int (0 : Int32)), some (.int (x3 + (1 : Int32)))] [] (va_up h 19 (0, .inr (20000, .inl (upd oplace x1.toNatClampNeg x3)))) Q) (q6 : (¬ wall ≤ x3) → (¬ wall ≤ (x2 + (1 : Int32))) → V G mX4_findPlaces b 12 [some (.ref 17), some (.int (((x1 - x1 / whigh * whigh) * wletters) + (olet x2.toNatClampNeg))), some (.int (x2 + (1 : Int32))), some (.int (x3 + (1 : Int32)))] [] (va_up h 19 (0, .inr (20000, .inl (upd oplace x1.toNatClampNeg x3)))) Q) : V G mX4_findPlaces b 12 [some (.ref 17), some (.int x1), some (.int x2), some (.int x3)] [] h Q := by
  refine V_iload_n dX4_findPlaces_12 rfl rfl ?_
  refine V_aload_n dX4_findPlaces_13 rfl rfl ?_
  refine V_get (ci := 4) (j := 0) (C0 := RX4) (T := TX4) (N := 8) dX4_findPlaces_14 rfl g17 (by decide) (by decide) kf_X4_36 rfl ?_
  refine V_getN (ci := 6) (j := 3) (C0 := RX6) (T := TX6) (N := 5) dX4_findPlaces_17 rfl g3 (by decide) (by decide) kf_X4_54 rfl ?_
  refine V_icmp_ge (t := 82) dX4_findPlaces_20 (by decide) (fun z1 => ?_) (fun z1 => ?_)
  ·
    exact V_vret dX4_findPlaces_82 rfl (q1 z1)
  ·
    refine V_aload_n dX4_findPlaces_23 rfl rfl ?_
    refine V_get (ci := 4) (j := 2) (C0 := RX4) (T := TX4) (N := 8) dX4_findPlaces_24 rfl g17 (by decide) (by decide) kf_X4_15 rfl ?_
    refine V_iload_n dX4_findPlaces_27 rfl rfl ?_
    refine V_iload_n dX4_findPlaces_28 rfl rfl ?_
    refine V_iast dX4_findPlaces_29 g19 (q2 z1) ?_
    refine V_iload_n dX4_findPlaces_30 rfl rfl ?_
    refine V_aload_n dX4_findPlaces_31 rfl rfl ?_
    refine V_get (ci := 4) (j := 0) (C0 := RX4) (T := TX4) (N := 8) dX4_findPlaces_32 rfl g17 (by decide) (by decide) kf_X4_36 rfl ?_
    refine V_getN (ci := 6) (j := 4) (C0 := RX6) (T := TX6) (N := 5) dX4_findPlaces_35 rfl g3 (by decide) (by decide) kf_X4_66 rfl ?_
    refine V_irem dX4_findPlaces_38 (q3 z1) ?_
    refine V_aload_n dX4_findPlaces_39 rfl rfl ?_
    refine V_get (ci := 4) (j := 0) (C0 := RX4) (T := TX4) (N := 8) dX4_findPlaces_40 rfl g17 (by decide) (by decide) kf_X4_36 rfl ?_
    refine V_getN (ci := 6) (j := 1) (C0 := RX6) (T := TX6) (N := 5) dX4_findPlaces_43 rfl g3 (by decide) (by decide) kf_X4_64 rfl ?_
    refine V_imul dX4_findPlaces_46 ?_
    refine V_aload_n dX4_findPlaces_47 rfl rfl ?_
    refine V_get (ci := 4) (j := 1) (C0 := RX4) (T := TX4) (N := 8) dX4_findPlaces_48 rfl g17 (by decide) (by decide) kf_X4_9 rfl ?_
    refine V_iload_n dX4_findPlaces_51 rfl rfl ?_
    refine V_bald dX4_findPlaces_52 g18 (q4 z1) ?_
    refine V_iadd dX4_findPlaces_53 ?_
    refine V_istore_n dX4_findPlaces_54 rfl (Nat.le_of_ble_eq_true rfl) ?_
    refine V_iload_n dX4_findPlaces_55 rfl rfl ?_
    refine V_iconst dX4_findPlaces_56 ic_1 ?_
    refine V_iadd dX4_findPlaces_57 ?_
    refine V_aload_n dX4_findPlaces_58 rfl rfl ?_
    refine V_get (ci := 4) (j := 0) (C0 := RX4) (T := TX4) (N := 8) dX4_findPlaces_59 rfl g17 (by decide) (by decide) kf_X4_36 rfl ?_
    refine V_getN (ci := 6) (j := 3) (C0 := RX6) (T := TX6) (N := 5) dX4_findPlaces_62 rfl g3 (by decide) (by decide) kf_X4_54 rfl ?_
    refine V_icmp_ge (t := 74) dX4_findPlaces_65 (by decide) (fun z2 => ?_) (fun z2 => ?_)
    ·
      refine V_iconst dX4_findPlaces_74 ic_0 ?_
      refine V_istore_n dX4_findPlaces_75 rfl (Nat.le_of_ble_eq_true rfl) ?_
      refine V_inc dX4_findPlaces_76 ic_1 rfl (Nat.le_of_ble_eq_true rfl) ?_
      refine V_goto (t := 12) dX4_findPlaces_79 (by decide) ?_
      exact V_sub (by exact (And.intro rfl (And.intro rfl (And.intro rfl (And.intro rfl True.intro))))) (q5 z1 z2)
    ·
      refine V_iload_n dX4_findPlaces_68 rfl rfl ?_
      refine V_iconst dX4_findPlaces_69 ic_1 ?_
      refine V_iadd dX4_findPlaces_70 ?_
      refine V_goto (t := 75) dX4_findPlaces_71 (by decide) ?_
      refine V_istore_n dX4_findPlaces_75 rfl (Nat.le_of_ble_eq_true rfl) ?_
      refine V_inc dX4_findPlaces_76 ic_1 rfl (Nat.le_of_ble_eq_true rfl) ?_
      refine V_goto (t := 12) dX4_findPlaces_79 (by decide) ?_
      exact V_sub (by exact (And.intro rfl (And.intro rfl (And.intro rfl (And.intro rfl True.intro))))) (q6 z1 z2)
theorem tX4_becomeGreedy_0 {G : gx} {b : bg} {h : ah} {Q : Option Value → ah → Prop} {okind : Int32} {ofirstMatch : Int32} {wletters : Int32} {wlength : Int32} {wall : Int32} {whigh : Int32} (g17 : h 17 = (4, .inl [.ref 3, .ref 18, .ref 19, .int okind, .ref 20, .ref 21, .ref 22, .int ofirstMatch])) (g3 : h 3 = (6, .inl [.ref 4, .int wletters, .int wlength, .int wall, .int whigh])) (q1 : V G mX4_becomeGreedy b 13 [some (.ref 17)] [.int (-1 : Int32), .int wall, .int (0 : Int32), .ref 19] h Q) : V G mX4_becomeGreedy b 0 [some (.ref 17)] [] h Q := by
  refine V_aload_n dX4_becomeGreedy_0 rfl rfl ?_
  refine V_get (ci := 4) (j := 2) (C0 := RX4) (T := TX4) (N := 8) dX4_becomeGreedy_1 rfl g17 (by decide) (by decide) kf_X4_15 rfl ?_
  refine V_iconst dX4_becomeGreedy_4 ic_0 ?_
  refine V_aload_n dX4_becomeGreedy_5 rfl rfl ?_
  refine V_get (ci := 4) (j := 0) (C0 := RX4) (T := TX4) (N := 8) dX4_becomeGreedy_6 rfl g17 (by decide) (by decide) kf_X4_36 rfl ?_
  refine V_getN (ci := 6) (j := 3) (C0 := RX6) (T := TX6) (N := 5) dX4_becomeGreedy_9 rfl g3 (by decide) (by decide) kf_X4_54 rfl ?_
  refine V_iconst dX4_becomeGreedy_12 ic_m1 ?_
  exact V_sub (by exact (And.intro rfl True.intro)) (q1)
theorem tX4_becomeGreedy_43 {G : gx} {b : bg} {h : ah} {Q : Option Value → ah → Prop} {x1 : Int32} {x2 : Int32} {okind : Int32} {ofirstMatch : Int32} {wletters : Int32} {wlength : Int32} {wall : Int32} {whigh : Int32} (g17 : h 17 = (4, .inl [.ref 3, .ref 18, .ref 19, .int okind, .ref 20, .ref 21, .ref 22, .int ofirstMatch])) (g3 : h 3 = (6, .inl [.ref 4, .int wletters, .int wlength, .int wall, .int whigh])) (q1 : (wall ≤ x2) → Q none (va_up h 17 (4, .inl [.ref 3, .ref 18, .ref 19, .int (1 : Int32), .ref 20, .ref 21, .ref 22, .int ofirstMatch]))) (q2 : (¬ wall ≤ x2) → ¬ whigh = 0) (q3 : (¬ wall ≤ x2) → V G mX4_becomeGreedy b 72 [some (.ref 17), some (.int x1), some (.int x2)] [.int ((x1 - x1 / whigh * whigh) * wletters), .ref 17] h Q) : V G mX4_becomeGreedy b 43 [some (.ref 17), some (.int x1), some (.int x2)] [] h Q := by
  refine V_iload_n dX4_becomeGreedy_43 rfl rfl ?_
  refine V_aload_n dX4_becomeGreedy_44 rfl rfl ?_
  refine V_get (ci := 4) (j := 0) (C0 := RX4) (T := TX4) (N := 8) dX4_becomeGreedy_45 rfl g17 (by decide) (by decide) kf_X4_36 rfl ?_
  refine V_getN (ci := 6) (j := 3) (C0 := RX6) (T := TX6) (N := 5) dX4_becomeGreedy_48 rfl g3 (by decide) (by decide) kf_X4_54 rfl ?_
  refine V_icmp_ge (t := 128) dX4_becomeGreedy_51 (by decide) (fun z1 => ?_) (fun z1 => ?_)
  ·
    refine V_aload_n dX4_becomeGreedy_128 rfl rfl ?_
    refine V_iconst dX4_becomeGreedy_129 ic_1 ?_
    refine V_put (ci := 4) (j := 3) (C0 := RX4) (T := TX4) (N := 8) (ty := .int) dX4_becomeGreedy_130 rfl g17 (by decide) (by decide) kf_X4_19 rfl (by decide +kernel) rfl rfl (Nat.le_of_ble_eq_true rfl) ?_
    exact V_vret dX4_becomeGreedy_133 rfl (q1 z1)
  ·
    refine V_aload_n dX4_becomeGreedy_54 rfl rfl ?_
    refine V_iload_n dX4_becomeGreedy_55 rfl rfl ?_
    refine V_aload_n dX4_becomeGreedy_56 rfl rfl ?_
    refine V_get (ci := 4) (j := 0) (C0 := RX4) (T := TX4) (N := 8) dX4_becomeGreedy_57 rfl g17 (by decide) (by decide) kf_X4_36 rfl ?_
    refine V_getN (ci := 6) (j := 4) (C0 := RX6) (T := TX6) (N := 5) dX4_becomeGreedy_60 rfl g3 (by decide) (by decide) kf_X4_66 rfl ?_
    refine V_irem dX4_becomeGreedy_63 (q2 z1) ?_
    refine V_aload_n dX4_becomeGreedy_64 rfl rfl ?_
    refine V_get (ci := 4) (j := 0) (C0 := RX4) (T := TX4) (N := 8) dX4_becomeGreedy_65 rfl g17 (by decide) (by decide) kf_X4_36 rfl ?_
    refine V_getN (ci := 6) (j := 1) (C0 := RX6) (T := TX6) (N := 5) dX4_becomeGreedy_68 rfl g3 (by decide) (by decide) kf_X4_64 rfl ?_
    refine V_imul dX4_becomeGreedy_71 ?_
    exact V_sub (by exact (And.intro rfl (And.intro rfl (And.intro rfl True.intro)))) (q3 z1)
theorem tX4_becomeGreedy_16 {G : gx} {b : bg} {h : ah} {Q : Option Value → ah → Prop} {okind : Int32} {ofirstMatch : Int32} {wletters : Int32} {wlength : Int32} {wall : Int32} {whigh : Int32} (g17 : h 17 = (4, .inl [.ref 3, .ref 18, .ref 19, .int okind, .ref 20, .ref 21, .ref 22, .int ofirstMatch])) (g3 : h 3 = (6, .inl [.ref 4, .int wletters, .int wlength, .int wall, .int whigh])) (q1 : V G mX4_becomeGreedy b 29 [some (.ref 17)] [.int (0 : Int32), .int wlength, .int (0 : Int32), .ref 18] h Q) : V G mX4_becomeGreedy b 16 [some (.ref 17)] [] h Q := by
  refine V_aload_n dX4_becomeGreedy_16 rfl rfl ?_
  refine V_get (ci := 4) (j := 1) (C0 := RX4) (T := TX4) (N := 8) dX4_becomeGreedy_17 rfl g17 (by decide) (by decide) kf_X4_9 rfl ?_
  refine V_iconst dX4_becomeGreedy_20 ic_0 ?_
  refine V_aload_n dX4_becomeGreedy_21 rfl rfl ?_
  refine V_get (ci := 4) (j := 0) (C0 := RX4) (T := TX4) (N := 8) dX4_becomeGreedy_22 rfl g17 (by decide) (by decide) kf_X4_36 rfl ?_
  refine V_getN (ci := 6) (j := 2) (C0 := RX6) (T := TX6) (N := 5) dX4_becomeGreedy_25 rfl g3 (by decide) (by decide) kf_X4_51 rfl ?_
  refine V_iconst dX4_becomeGreedy_28 ic_0 ?_
  exact V_sub (by exact (And.intro rfl True.intro)) (q1)
theorem tX4_becomeGreedy_32 {G : gx} {b : bg} {h : ah} {Q : Option Value → ah → Prop} {okind : Int32} {ofirstMatch : Int32} {oplace : Nat → Int32} (g17 : h 17 = (4, .inl [.ref 3, .ref 18, .ref 19, .int okind, .ref 20, .ref 21, .ref 22, .int ofirstMatch])) (g19 : h 19 = (0, .inr (20000, .inl oplace))) (q1 : vp_in (0 : Int32) 20000) (q2 : V G mX4_becomeGreedy b 43 [some (.ref 17), some (.int (0 : Int32)), some (.int (1 : Int32))] [] (va_up h 19 (0, .inr (20000, .inl (upd oplace (0 : Int32).toNatClampNeg (0 : Int32))))) Q) : V G mX4_becomeGreedy b 32 [some (.ref 17)] [] h Q := by
  refine V_aload_n dX4_becomeGreedy_32 rfl rfl ?_
  refine V_get (ci := 4) (j := 2) (C0 := RX4) (T := TX4) (N := 8) dX4_becomeGreedy_33 rfl g17 (by decide) (by decide) kf_X4_15 rfl ?_
  refine V_iconst dX4_becomeGreedy_36 ic_0 ?_
  refine V_iconst dX4_becomeGreedy_37 ic_0 ?_
  refine V_iast dX4_becomeGreedy_38 g19 (q1) ?_
  refine V_iconst dX4_becomeGreedy_39 ic_0 ?_
  refine V_istore_n dX4_becomeGreedy_40 rfl (Nat.le_of_ble_eq_true rfl) ?_
  refine V_iconst dX4_becomeGreedy_41 ic_1 ?_
  refine V_istore_n dX4_becomeGreedy_42 rfl (Nat.le_of_ble_eq_true rfl) ?_
  exact V_sub (by exact (And.intro rfl (And.intro rfl (And.intro rfl True.intro)))) (q2)
theorem tX4_becomeGreedy_75 {G : gx} {b : bg} {h : ah} {Q : Option Value → ah → Prop} {x1 : Int32} {x2 : Int32} {s0 : Int32} {okind : Int32} {ofirstMatch : Int32} {oplace : Nat → Int32} {wletters : Int32} {wlength : Int32} {wall : Int32} {whigh : Int32} {olet : Nat → Int32} (g17 : h 17 = (4, .inl [.ref 3, .ref 18, .ref 19, .int okind, .ref 20, .ref 21, .ref 22, .int ofirstMatch])) (g19 : h 19 = (0, .inr (20000, .inl oplace))) (g3 : h 3 = (6, .inl [.ref 4, .int wletters, .int wlength, .int wall, .int whigh])) (g18 : h 18 = (1, .inr (20000, .inl olet))) (q1 : vp_in s0 20000) (q2 : (wall ≤ ((x2 + wlength) - (1 : Int32))) → V G mX4_becomeGreedy b 43 [some (.ref 17), some (.int s0), some (.int (x2 + (1 : Int32)))] [] (va_up h 19 (0, .inr (20000, .inl (upd oplace s0.toNatClampNeg x2)))) Q) (q3 : (¬ wall ≤ ((x2 + wlength) - (1 : Int32))) → ¬ wletters = 0) (q4 : (¬ wall ≤ ((x2 + wlength) - (1 : Int32))) → vp_in ((x2 + wlength) - (1 : Int32)) 20000) (q5 : (¬ wall ≤ ((x2 + wlength) - (1 : Int32))) → V G mX4_becomeGreedy b 43 [some (.ref 17), some (.int s0), some (.int (x2 + (1 : Int32)))] [] (va_up (va_up h 19 (0, .inr (20000, .inl (upd oplace s0.toNatClampNeg x2)))) 18 (1, .inr (20000, .inl (upd olet ((x2 + wlength) - (1 : Int32)).toNatClampNeg (vp_nar .byte ((s0 - s0 / wletters * wletters).toInt8.toInt32)))))) Q) : V G mX4_becomeGreedy b 75 [some (.ref 17), some (.int x1), some (.int x2)] [.int s0] h Q := by
  refine V_istore_n dX4_becomeGreedy_75 rfl (Nat.le_of_ble_eq_true rfl) ?_
  refine V_aload_n dX4_becomeGreedy_76 rfl rfl ?_
  refine V_get (ci := 4) (j := 2) (C0 := RX4) (T := TX4) (N := 8) dX4_becomeGreedy_77 rfl g17 (by decide) (by decide) kf_X4_15 rfl ?_
  refine V_iload_n dX4_becomeGreedy_80 rfl rfl ?_
  refine V_iload_n dX4_becomeGreedy_81 rfl rfl ?_
  refine V_iast dX4_becomeGreedy_82 g19 (q1) ?_
  refine V_iload_n dX4_becomeGreedy_83 rfl rfl ?_
  refine V_aload_n dX4_becomeGreedy_84 rfl rfl ?_
  refine V_get (ci := 4) (j := 0) (C0 := RX4) (T := TX4) (N := 8) dX4_becomeGreedy_85 rfl g17 (by decide) (by decide) kf_X4_36 rfl ?_
  refine V_getN (ci := 6) (j := 2) (C0 := RX6) (T := TX6) (N := 5) dX4_becomeGreedy_88 rfl g3 (by decide) (by decide) kf_X4_51 rfl ?_
  refine V_iadd dX4_becomeGreedy_91 ?_
  refine V_iconst dX4_becomeGreedy_92 ic_1 ?_
  refine V_isub dX4_becomeGreedy_93 ?_
  refine V_istore_n dX4_becomeGreedy_94 rfl (Nat.le_of_ble_eq_true rfl) ?_
  refine V_iload_n dX4_becomeGreedy_95 rfl rfl ?_
  refine V_aload_n dX4_becomeGreedy_96 rfl rfl ?_
  refine V_get (ci := 4) (j := 0) (C0 := RX4) (T := TX4) (N := 8) dX4_becomeGreedy_97 rfl g17 (by decide) (by decide) kf_X4_36 rfl ?_
  refine V_getN (ci := 6) (j := 3) (C0 := RX6) (T := TX6) (N := 5) dX4_becomeGreedy_100 rfl g3 (by decide) (by decide) kf_X4_54 rfl ?_
  refine V_icmp_ge (t := 122) dX4_becomeGreedy_103 (by decide) (fun z1 => ?_) (fun z1 => ?_)
  ·
    refine V_inc dX4_becomeGreedy_122 ic_1 rfl (Nat.le_of_ble_eq_true rfl) ?_
    refine V_goto (t := 43) dX4_becomeGreedy_125 (by decide) ?_
    exact V_sub (by exact (And.intro rfl (And.intro rfl (And.intro rfl True.intro)))) (q2 z1)
  ·
    refine V_aload_n dX4_becomeGreedy_106 rfl rfl ?_
    refine V_get (ci := 4) (j := 1) (C0 := RX4) (T := TX4) (N := 8) dX4_becomeGreedy_107 rfl g17 (by decide) (by decide) kf_X4_9 rfl ?_
    refine V_iload_n dX4_becomeGreedy_110 rfl rfl ?_
    refine V_iload_n dX4_becomeGreedy_111 rfl rfl ?_
    refine V_aload_n dX4_becomeGreedy_112 rfl rfl ?_
    refine V_get (ci := 4) (j := 0) (C0 := RX4) (T := TX4) (N := 8) dX4_becomeGreedy_113 rfl g17 (by decide) (by decide) kf_X4_36 rfl ?_
    refine V_getN (ci := 6) (j := 1) (C0 := RX6) (T := TX6) (N := 5) dX4_becomeGreedy_116 rfl g3 (by decide) (by decide) kf_X4_64 rfl ?_
    refine V_irem dX4_becomeGreedy_119 (q3 z1) ?_
    refine V_i2b dX4_becomeGreedy_120 ?_
    refine V_bast dX4_becomeGreedy_121 g18 (q4 z1) ?_
    refine V_inc dX4_becomeGreedy_122 ic_1 rfl (Nat.le_of_ble_eq_true rfl) ?_
    refine V_goto (t := 43) dX4_becomeGreedy_125 (by decide) ?_
    exact V_sub (by exact (And.intro rfl (And.intro rfl (And.intro rfl True.intro)))) (q5 z1)
theorem cX4_becomeGreedy_13 {G : gx} {d mc ms cc zz d2 mc2 ms2 : Nat} {L : List (Option Value)} {S : List Value} {h : ah} {Q Q2 : Option Value → ah → Prop} {a0 a1 a2 a3 : Value} (hM : Ct G mJ7_fill_fda19 d2 mc2 ms2 [a0, a1, a2, a3] h Q2) (hdd : d2 < d ∧ d ≤ 9) (hrm : (S.map fun v => v.category).sum ≤ 8) (hf : cc + mc2 ≤ mc ∧ zz + ms2 ≤ ms) (kk : ∀ r h2, Q2 r h2 → V G mX4_becomeGreedy (d, mc, ms, cc + mc2, zz + ms2) 16 L (r.toList ++ S) h2 Q) : V G mX4_becomeGreedy (d, mc, ms, cc, zz) 13 L (a3 :: a2 :: a1 :: a0 :: S) h Q := V_callS hM dX4_becomeGreedy_13 ⟨km_X4_69, kt_J7_fill_fda19⟩ cw_J7_fill_fda19 hdd rfl rfl hrm hf kk
theorem cX4_becomeGreedy_29 {G : gx} {d mc ms cc zz d2 mc2 ms2 : Nat} {L : List (Option Value)} {S : List Value} {h : ah} {Q Q2 : Option Value → ah → Prop} {a0 a1 a2 a3 : Value} (hM : Ct G mJ7_fill_eb02e d2 mc2 ms2 [a0, a1, a2, a3] h Q2) (hdd : d2 < d ∧ d ≤ 9) (hrm : (S.map fun v => v.category).sum ≤ 8) (hf : cc + mc2 ≤ mc ∧ zz + ms2 ≤ ms) (kk : ∀ r h2, Q2 r h2 → V G mX4_becomeGreedy (d, mc, ms, cc + mc2, zz + ms2) 32 L (r.toList ++ S) h2 Q) : V G mX4_becomeGreedy (d, mc, ms, cc, zz) 29 L (a3 :: a2 :: a1 :: a0 :: S) h Q := V_callS hM dX4_becomeGreedy_29 ⟨km_X4_75, kt_J7_fill_eb02e⟩ cw_J7_fill_eb02e hdd rfl rfl hrm hf kk
theorem cX4_becomeGreedy_72 {G : gx} {d mc ms cc zz d2 mc2 ms2 : Nat} {L : List (Option Value)} {S : List Value} {h : ah} {Q Q2 : Option Value → ah → Prop} {k : Nat} {fs : List Value} {a0 : Value} (hM : Ct G mX4_greatestNew d2 mc2 ms2 (.ref (k + 2) :: [a0]) h Q2) (hc : h (k + 2) = (4, .inl fs)) (hdd : d2 < d ∧ d ≤ 9) (hrm : (S.map fun v => v.category).sum ≤ 8) (hf : cc + mc2 ≤ mc ∧ zz + ms2 ≤ ms) (kk : ∀ r h2, Q2 r h2 → V G mX4_becomeGreedy (d, mc, ms, cc + mc2, zz + ms2) 75 L (r.toList ++ S) h2 Q) : V G mX4_becomeGreedy (d, mc, ms, cc, zz) 72 L (a0 :: .ref (k + 2) :: S) h Q := V_callV (ci := 4) (T := TX4) (N := 8) hM dX4_becomeGreedy_72 ⟨km_X4_78, ki_X4_greatestNew, ks_X4_greatestNew⟩ cw_X4_greatestNew rfl hc (by decide) hdd rfl rfl hrm hf kk
theorem tX4_greatestNew_0 {G : gx} {b : bg} {h : ah} {Q : Option Value → ah → Prop} {x1 : Int32} {okind : Int32} {ofirstMatch : Int32} {wletters : Int32} {wlength : Int32} {wall : Int32} {whigh : Int32} (g17 : h 17 = (4, .inl [.ref 3, .ref 18, .ref 19, .int okind, .ref 20, .ref 21, .ref 22, .int ofirstMatch])) (g3 : h 3 = (6, .inl [.ref 4, .int wletters, .int wlength, .int wall, .int whigh])) (q1 : V G mX4_greatestNew b 12 [some (.ref 17), some (.int x1), some (.int ((x1 + wletters) - (1 : Int32)))] [] h Q) : V G mX4_greatestNew b 0 [some (.ref 17), some (.int x1)] [] h Q := by
  refine V_iload_n dX4_greatestNew_0 rfl rfl ?_
  refine V_aload_n dX4_greatestNew_1 rfl rfl ?_
  refine V_get (ci := 4) (j := 0) (C0 := RX4) (T := TX4) (N := 8) dX4_greatestNew_2 rfl g17 (by decide) (by decide) kf_X4_36 rfl ?_
  refine V_getN (ci := 6) (j := 1) (C0 := RX6) (T := TX6) (N := 5) dX4_greatestNew_5 rfl g3 (by decide) (by decide) kf_X4_64 rfl ?_
  refine V_iadd dX4_greatestNew_8 ?_
  refine V_iconst dX4_greatestNew_9 ic_1 ?_
  refine V_isub dX4_greatestNew_10 ?_
  refine V_istore_n dX4_greatestNew_11 rfl (Nat.le_of_ble_eq_true rfl) ?_
  exact V_sub (by exact (And.intro rfl (And.intro rfl (And.intro rfl True.intro)))) (q1)
theorem tX4_greatestNew_12 {G : gx} {b : bg} {h : ah} {Q : Option Value → ah → Prop} {x1 : Int32} {x2 : Int32} {okind : Int32} {ofirstMatch : Int32} {oplace : Nat → Int32} (g17 : h 17 = (4, .inl [.ref 3, .ref 18, .ref 19, .int okind, .ref 20, .ref 21, .ref 22, .int ofirstMatch])) (g19 : h 19 = (0, .inr (20000, .inl oplace))) (q1 : (x2 ≤ x1) → Q (some (.int x2)) h) (q2 : (¬ x2 ≤ x1) → vp_in x2 20000) (q3 : (¬ x2 ≤ x1) → ((oplace x2.toNatClampNeg) = (-1 : Int32)) → Q (some (.int x2)) h) (q4 : (¬ x2 ≤ x1) → (¬ (oplace x2.toNatClampNeg) = (-1 : Int32)) → V G mX4_greatestNew b 12 [some (.ref 17), some (.int x1), some (.int (x2 + (-1 : Int32)))] [] h Q) : V G mX4_greatestNew b 12 [some (.ref 17), some (.int x1), some (.int x2)] [] h Q := by
  refine V_iload_n dX4_greatestNew_12 rfl rfl ?_
  refine V_iload_n dX4_greatestNew_13 rfl rfl ?_
  refine V_icmp_le (t := 33) dX4_greatestNew_14 (by decide) (fun z1 => ?_) (fun z1 => ?_)
  ·
    refine V_iload_n dX4_greatestNew_33 rfl rfl ?_
    exact V_iret dX4_greatestNew_34 rfl (q1 z1)
  ·
    refine V_aload_n dX4_greatestNew_17 rfl rfl ?_
    refine V_get (ci := 4) (j := 2) (C0 := RX4) (T := TX4) (N := 8) dX4_greatestNew_18 rfl g17 (by decide) (by decide) kf_X4_15 rfl ?_
    refine V_iload_n dX4_greatestNew_21 rfl rfl ?_
    refine V_iald dX4_greatestNew_22 g19 (q2 z1) ?_
    refine V_iconst dX4_greatestNew_23 ic_m1 ?_
    refine V_icmp_eq (t := 33) dX4_greatestNew_24 (by decide) (fun z2 => ?_) (fun z2 => ?_)
    ·
      refine V_iload_n dX4_greatestNew_33 rfl rfl ?_
      exact V_iret dX4_greatestNew_34 rfl (q3 z1 z2)
    ·
      refine V_inc dX4_greatestNew_27 ic_m1 rfl (Nat.le_of_ble_eq_true rfl) ?_
      refine V_goto (t := 12) dX4_greatestNew_30 (by decide) ?_
      exact V_sub (by exact (And.intro rfl (And.intro rfl (And.intro rfl True.intro)))) (q4 z1 z2)
theorem tX4_becomeCycle_0 {G : gx} {b : bg} {h : ah} {Q : Option Value → ah → Prop} {p1 : Nat} (q1 : V G mX4_becomeCycle b 4 [some (.ref 17), some (.ref (p1 + 2)), some (.int (0 : Int32)), some (.int (0 : Int32))] [] h Q) : V G mX4_becomeCycle b 0 [some (.ref 17), some (.ref (p1 + 2))] [] h Q := by
  refine V_iconst dX4_becomeCycle_0 ic_0 ?_
  refine V_istore_n dX4_becomeCycle_1 rfl (Nat.le_of_ble_eq_true rfl) ?_
  refine V_iconst dX4_becomeCycle_2 ic_0 ?_
  refine V_istore_n dX4_becomeCycle_3 rfl (Nat.le_of_ble_eq_true rfl) ?_
  exact V_sub (by exact (And.intro rfl (And.intro rfl (And.intro rfl (And.intro rfl True.intro))))) (q1)
theorem tX4_becomeCycle_4 {G : gx} {b : bg} {h : ah} {Q : Option Value → ah → Prop} {p1 : Nat} {x2 : Int32} {x3 : Int32} {okind : Int32} {ofirstMatch : Int32} {wletters : Int32} {wlength : Int32} {wall : Int32} {whigh : Int32} {olet : Nat → Int32} {oplace : Nat → Int32} {fp1 : Nat → Int32} {np1 : Nat} (g17 : h 17 = (4, .inl [.ref 3, .ref 18, .ref 19, .int okind, .ref 20, .ref 21, .ref 22, .int ofirstMatch])) (g3 : h 3 = (6, .inl [.ref 4, .int wletters, .int wlength, .int wall, .int whigh])) (g18 : h 18 = (1, .inr (20000, .inl olet))) (g19 : h 19 = (0, .inr (20000, .inl oplace))) (gp12 : h (p1 + 2) = (0, .inr (np1, .inl fp1))) (np12_18 : p1 + 2 ≠ 18) (np12_19 : p1 + 2 ≠ 19) (q1 : (wall ≤ x3) → Q none (va_up h 17 (4, .inl [.ref 3, .ref 18, .ref 19, .int (2 : Int32), .ref 20, .ref 21, .ref 22, .int ofirstMatch]))) (q2 : (¬ wall ≤ x3) → ¬ whigh = 0) (q3 : (¬ wall ≤ x3) → vp_in x3 20000) (q4 : (¬ wall ≤ x3) → vp_in x2 20000) (q5 : (¬ wall ≤ x3) → vp_in x2 np1) (q6 : (¬ wall ≤ x3) → V G mX4_becomeCycle b 4 [some (.ref 17), some (.ref (p1 + 2)), some (.int (fp1 x2.toNatClampNeg)), some (.int (x3 + (1 : Int32)))] [] (va_up (va_up h 18 (1, .inr (20000, .inl (upd olet x3.toNatClampNeg (vp_nar .byte ((x2 / whigh).toInt8.toInt32)))))) 19 (0, .inr (20000, .inl (upd oplace x2.toNatClampNeg x3)))) Q) : V G mX4_becomeCycle b 4 [some (.ref 17), some (.ref (p1 + 2)), some (.int x2), some (.int x3)] [] h Q := by
  refine V_iload_n dX4_becomeCycle_4 rfl rfl ?_
  refine V_aload_n dX4_becomeCycle_5 rfl rfl ?_
  refine V_get (ci := 4) (j := 0) (C0 := RX4) (T := TX4) (N := 8) dX4_becomeCycle_6 rfl g17 (by decide) (by decide) kf_X4_36 rfl ?_
  refine V_getN (ci := 6) (j := 3) (C0 := RX6) (T := TX6) (N := 5) dX4_becomeCycle_9 rfl g3 (by decide) (by decide) kf_X4_54 rfl ?_
  refine V_icmp_ge (t := 48) dX4_becomeCycle_12 (by decide) (fun z1 => ?_) (fun z1 => ?_)
  ·
    refine V_aload_n dX4_becomeCycle_48 rfl rfl ?_
    refine V_iconst dX4_becomeCycle_49 ic_2 ?_
    refine V_put (ci := 4) (j := 3) (C0 := RX4) (T := TX4) (N := 8) (ty := .int) dX4_becomeCycle_50 rfl g17 (by decide) (by decide) kf_X4_19 rfl (by decide +kernel) rfl rfl (Nat.le_of_ble_eq_true rfl) ?_
    exact V_vret dX4_becomeCycle_53 rfl (q1 z1)
  ·
    refine V_aload_n dX4_becomeCycle_15 rfl rfl ?_
    refine V_get (ci := 4) (j := 1) (C0 := RX4) (T := TX4) (N := 8) dX4_becomeCycle_16 rfl g17 (by decide) (by decide) kf_X4_9 rfl ?_
    refine V_iload_n dX4_becomeCycle_19 rfl rfl ?_
    refine V_iload_n dX4_becomeCycle_20 rfl rfl ?_
    refine V_aload_n dX4_becomeCycle_21 rfl rfl ?_
    refine V_get (ci := 4) (j := 0) (C0 := RX4) (T := TX4) (N := 8) dX4_becomeCycle_22 rfl g17 (by decide) (by decide) kf_X4_36 rfl ?_
    refine V_getN (ci := 6) (j := 4) (C0 := RX6) (T := TX6) (N := 5) dX4_becomeCycle_25 rfl g3 (by decide) (by decide) kf_X4_66 rfl ?_
    refine V_idiv dX4_becomeCycle_28 (q2 z1) ?_
    refine V_i2b dX4_becomeCycle_29 ?_
    refine V_bast dX4_becomeCycle_30 g18 (q3 z1) ?_
    refine V_aload_n dX4_becomeCycle_31 rfl rfl ?_
    refine V_get (ci := 4) (j := 2) (C0 := RX4) (T := TX4) (N := 8) dX4_becomeCycle_32 rfl g17 (by decide) (by decide) kf_X4_15 rfl ?_
    refine V_iload_n dX4_becomeCycle_35 rfl rfl ?_
    refine V_iload_n dX4_becomeCycle_36 rfl rfl ?_
    refine V_iast dX4_becomeCycle_37 g19 (q4 z1) ?_
    refine V_aload_n dX4_becomeCycle_38 rfl rfl ?_
    refine V_iload_n dX4_becomeCycle_39 rfl rfl ?_
    refine V_iald dX4_becomeCycle_40 ((up_n _ _ np12_19).trans ((up_n _ _ np12_18).trans gp12)) (q5 z1) ?_
    refine V_istore_n dX4_becomeCycle_41 rfl (Nat.le_of_ble_eq_true rfl) ?_
    refine V_inc dX4_becomeCycle_42 ic_1 rfl (Nat.le_of_ble_eq_true rfl) ?_
    refine V_goto (t := 4) dX4_becomeCycle_45 (by decide) ?_
    exact V_sub (by exact (And.intro rfl (And.intro rfl (And.intro rfl (And.intro rfl True.intro))))) (q6 z1)
theorem tX4_writeLetters_0 {G : gx} {b : bg} {h : ah} {Q : Option Value → ah → Prop} {x1 : Int32} {x2 : Int32} {p3 : Nat} {x4 : Int32} (q1 : V G mX4_writeLetters b 6 [some (.ref 17), some (.int x1), some (.int x2), some (.ref (p3 + 2)), some (.int x4), some (.int x1), some (.int (0 : Int32))] [] h Q) : V G mX4_writeLetters b 0 [some (.ref 17), some (.int x1), some (.int x2), some (.ref (p3 + 2)), some (.int x4)] [] h Q := by
  refine V_iload_n dX4_writeLetters_0 rfl rfl ?_
  refine V_istore dX4_writeLetters_1 (Nat.le_of_ble_eq_true rfl) ?_
  refine V_iconst dX4_writeLetters_3 ic_0 ?_
  refine V_istore dX4_writeLetters_4 (Nat.le_of_ble_eq_true rfl) ?_
  exact V_sub (by exact (And.intro rfl (And.intro rfl (And.intro rfl (And.intro rfl (And.intro rfl (And.intro rfl (And.intro rfl True.intro)))))))) (q1)
theorem tX4_writeLetters_6 {G : gx} {b : bg} {h : ah} {Q : Option Value → ah → Prop} {x1 : Int32} {x2 : Int32} {p3 : Nat} {x4 : Int32} {x5 : Int32} {x6 : Int32} {okind : Int32} {ofirstMatch : Int32} {olet : Nat → Int32} {fp3 : Nat → Int32} {np3 : Nat} {wletters : Int32} {wlength : Int32} {wall : Int32} {whigh : Int32} (g17 : h 17 = (4, .inl [.ref 3, .ref 18, .ref 19, .int okind, .ref 20, .ref 21, .ref 22, .int ofirstMatch])) (g18 : h 18 = (1, .inr (20000, .inl olet))) (gp32 : h (p3 + 2) = (0, .inr (np3, .inl fp3))) (n17_p32 : 17 ≠ p3 + 2) (g3 : h 3 = (6, .inl [.ref 4, .int wletters, .int wlength, .int wall, .int whigh])) (n3_p32 : 3 ≠ p3 + 2) (q1 : (x2 ≤ x6) → Q none h) (q2 : (¬ x2 ≤ x6) → vp_in x5 20000) (q3 : (¬ x2 ≤ x6) → vp_in (x4 + x6) np3) (q4 : (¬ x2 ≤ x6) → (wall ≤ (x5 + (1 : Int32))) → V G mX4_writeLetters b 6 [some (.ref 17), some (.int x1), some (.int x2), some (.ref (p3 + 2)), some (.int x4), some (.int (0 : Int32)), some (.int (x6 + (1 : Int32)))] [] (va_up h (p3 + 2) (0, .inr (np3, .inl (upd fp3 (x4 + x6).toNatClampNeg (olet x5.toNatClampNeg))))) Q) (q5 : (¬ x2 ≤ x6) → (¬ wall ≤ (x5 + (1 : Int32))) → V G mX4_writeLetters b 6 [some (.ref 17), some (.int x1), some (.int x2), some (.ref (p3 + 2)), some (.int x4), some (.int (x5 + (1 : Int32))), some (.int (x6 + (1 : Int32)))] [] (va_up h (p3 + 2) (0, .inr (np3, .inl (upd fp3 (x4 + x6).toNatClampNeg (olet x5.toNatClampNeg))))) Q) : V G mX4_writeLetters b 6 [some (.ref 17), some (.int x1), some (.int x2), some (.ref (p3 + 2)), some (.int x4), some (.int x5), some (.int x6)] [] h Q := by
  refine V_iload dX4_writeLetters_6 rfl ?_
  refine V_iload_n dX4_writeLetters_8 rfl rfl ?_
  refine V_icmp_ge (t := 56) dX4_writeLetters_9 (by decide) (fun z1 => ?_) (fun z1 => ?_)
  ·
    exact V_vret dX4_writeLetters_56 rfl (q1 z1)
  ·
    refine V_aload_n dX4_writeLetters_12 rfl rfl ?_
    refine V_iload dX4_writeLetters_13 rfl ?_
    refine V_iload dX4_writeLetters_15 rfl ?_
    refine V_iadd dX4_writeLetters_17 ?_
    refine V_aload_n dX4_writeLetters_18 rfl rfl ?_
    refine V_get (ci := 4) (j := 1) (C0 := RX4) (T := TX4) (N := 8) dX4_writeLetters_19 rfl g17 (by decide) (by decide) kf_X4_9 rfl ?_
    refine V_iload dX4_writeLetters_22 rfl ?_
    refine V_bald dX4_writeLetters_24 g18 (q2 z1) ?_
    refine V_iast dX4_writeLetters_25 gp32 (q3 z1) ?_
    refine V_iload dX4_writeLetters_26 rfl ?_
    refine V_iconst dX4_writeLetters_28 ic_1 ?_
    refine V_iadd dX4_writeLetters_29 ?_
    refine V_aload_n dX4_writeLetters_30 rfl rfl ?_
    refine V_get (ci := 4) (j := 0) (C0 := RX4) (T := TX4) (N := 8) dX4_writeLetters_31 rfl ((up_n _ _ n17_p32).trans g17) (by decide) (by decide) kf_X4_36 rfl ?_
    refine V_getN (ci := 6) (j := 3) (C0 := RX6) (T := TX6) (N := 5) dX4_writeLetters_34 rfl ((up_n _ _ n3_p32).trans g3) (by decide) (by decide) kf_X4_54 rfl ?_
    refine V_icmp_ge (t := 47) dX4_writeLetters_37 (by decide) (fun z2 => ?_) (fun z2 => ?_)
    ·
      refine V_iconst dX4_writeLetters_47 ic_0 ?_
      refine V_istore dX4_writeLetters_48 (Nat.le_of_ble_eq_true rfl) ?_
      refine V_inc dX4_writeLetters_50 ic_1 rfl (Nat.le_of_ble_eq_true rfl) ?_
      refine V_goto (t := 6) dX4_writeLetters_53 (by decide) ?_
      exact V_sub (by exact (And.intro rfl (And.intro rfl (And.intro rfl (And.intro rfl (And.intro rfl (And.intro rfl (And.intro rfl True.intro)))))))) (q4 z1 z2)
    ·
      refine V_iload dX4_writeLetters_40 rfl ?_
      refine V_iconst dX4_writeLetters_42 ic_1 ?_
      refine V_iadd dX4_writeLetters_43 ?_
      refine V_goto (t := 48) dX4_writeLetters_44 (by decide) ?_
      refine V_istore dX4_writeLetters_48 (Nat.le_of_ble_eq_true rfl) ?_
      refine V_inc dX4_writeLetters_50 ic_1 rfl (Nat.le_of_ble_eq_true rfl) ?_
      refine V_goto (t := 6) dX4_writeLetters_53 (by decide) ?_
      exact V_sub (by exact (And.intro rfl (And.intro rfl (And.intro rfl (And.intro rfl (And.intro rfl (And.intro rfl (And.intro rfl True.intro)))))))) (q5 z1 z2)
theorem tX4_countMatches_0 {G : gx} {b : bg} {h : ah} {Q : Option Value → ah → Prop} {p1 : Nat} {x2 : Int32} {x3 : Int32} {x4 : Int32} (q1 : V G mX4_countMatches b 4 [some (.ref 17), some (.ref (p1 + 2)), some (.int x2), some (.int x3), some (.int x4)] [.int x3, .int x2, .ref (p1 + 2), .ref 17] h Q) : V G mX4_countMatches b 0 [some (.ref 17), some (.ref (p1 + 2)), some (.int x2), some (.int x3), some (.int x4)] [] h Q := by
  refine V_aload_n dX4_countMatches_0 rfl rfl ?_
  refine V_aload_n dX4_countMatches_1 rfl rfl ?_
  refine V_iload_n dX4_countMatches_2 rfl rfl ?_
  refine V_iload_n dX4_countMatches_3 rfl rfl ?_
  exact V_sub (by exact (And.intro rfl (And.intro rfl (And.intro rfl (And.intro rfl (And.intro rfl True.intro)))))) (q1)
theorem tX4_countMatches_27 {G : gx} {b : bg} {h : ah} {Q : Option Value → ah → Prop} {p1 : Nat} {x2 : Int32} {x3 : Int32} {x4 : Int32} {x5 : Int32} {y6 : Int64} {x8 : Int32} {x9 : Int32} {okind : Int32} {ofirstMatch : Int32} {wletters : Int32} {wlength : Int32} {wall : Int32} {whigh : Int32} {olet : Nat → Int32} (g17 : h 17 = (4, .inl [.ref 3, .ref 18, .ref 19, .int okind, .ref 20, .ref 21, .ref 22, .int ofirstMatch])) (g3 : h 3 = (6, .inl [.ref 4, .int wletters, .int wlength, .int wall, .int whigh])) (g18 : h 18 = (1, .inr (20000, .inl olet))) (q1 : (wall ≤ x9) → Q (some (.int x8)) h) (q2 : (¬ wall ≤ x9) → vp_in x5 20000) (q3 : (¬ wall ≤ x9) → V G mX4_countMatches b 54 [some (.ref 17), some (.ref (p1 + 2)), some (.int x2), some (.int x3), some (.int x4), some (.int x5), some (.long y6), none, some (.int x8), some (.int x9), some (.long (0 : Int64)), none, some (.int (olet x5.toNatClampNeg)), some (.int (0 : Int32))] [] h Q) : V G mX4_countMatches b 27 [some (.ref 17), some (.ref (p1 + 2)), some (.int x2), some (.int x3), some (.int x4), some (.int x5), some (.long y6), none, some (.int x8), some (.int x9)] [] h Q := by
  refine V_iload dX4_countMatches_27 rfl ?_
  refine V_aload_n dX4_countMatches_29 rfl rfl ?_
  refine V_get (ci := 4) (j := 0) (C0 := RX4) (T := TX4) (N := 8) dX4_countMatches_30 rfl g17 (by decide) (by decide) kf_X4_36 rfl ?_
  refine V_getN (ci := 6) (j := 3) (C0 := RX6) (T := TX6) (N := 5) dX4_countMatches_33 rfl g3 (by decide) (by decide) kf_X4_54 rfl ?_
  refine V_icmp_ge (t := 176) dX4_countMatches_36 (by decide) (fun z1 => ?_) (fun z1 => ?_)
  ·
    refine V_iload dX4_countMatches_176 rfl ?_
    exact V_iret dX4_countMatches_178 rfl (q1 z1)
  ·
    refine V_lconst dX4_countMatches_39 lc_0 ?_
    refine V_lstore dX4_countMatches_40 (Nat.le_of_ble_eq_true rfl) ?_
    refine V_aload_n dX4_countMatches_42 rfl rfl ?_
    refine V_get (ci := 4) (j := 1) (C0 := RX4) (T := TX4) (N := 8) dX4_countMatches_43 rfl g17 (by decide) (by decide) kf_X4_9 rfl ?_
    refine V_iload dX4_countMatches_46 rfl ?_
    refine V_bald dX4_countMatches_48 g18 (q2 z1) ?_
    refine V_istore dX4_countMatches_49 (Nat.le_of_ble_eq_true rfl) ?_
    refine V_iconst dX4_countMatches_51 ic_0 ?_
    refine V_istore dX4_countMatches_52 (Nat.le_of_ble_eq_true rfl) ?_
    exact V_sub (by exact (And.intro rfl (And.intro rfl (And.intro rfl (And.intro rfl (And.intro rfl (And.intro rfl (And.intro rfl (And.intro rfl (And.intro rfl (And.intro rfl (And.intro rfl (And.intro rfl True.intro))))))))))))) (q3 z1)
theorem tX4_countMatches_54 {G : gx} {b : bg} {h : ah} {Q : Option Value → ah → Prop} {p1 : Nat} {x2 : Int32} {x3 : Int32} {x4 : Int32} {x5 : Int32} {y6 : Int64} {x8 : Int32} {x9 : Int32} {y10 : Int64} {x12 : Int32} {x13 : Int32} {okind : Int32} {ofirstMatch : Int32} {wletters : Int32} {wlength : Int32} {wall : Int32} {whigh : Int32} {ostand : Nat → Int64} {oslip : Nat → Int64} (g17 : h 17 = (4, .inl [.ref 3, .ref 18, .ref 19, .int okind, .ref 20, .ref 21, .ref 22, .int ofirstMatch])) (g3 : h 3 = (6, .inl [.ref 4, .int wletters, .int wlength, .int wall, .int whigh])) (g22 : h 22 = (3, .inr (5, .inr (.inl ostand)))) (g21 : h 21 = (3, .inr (5, .inr (.inl oslip)))) (q1 : (wletters ≤ x13) → (wall ≤ (x5 + (1 : Int32))) → V G mX4_countMatches b 148 [some (.ref 17), some (.ref (p1 + 2)), some (.int x2), some (.int x3), some (.int x4), some (.int (0 : Int32)), some (.long y6), none, some (.int x8), some (.int x9), some (.long y10), none, some (.int x12), some (.int x13)] [.long y10] h Q) (q2 : (wletters ≤ x13) → (¬ wall ≤ (x5 + (1 : Int32))) → V G mX4_countMatches b 148 [some (.ref 17), some (.ref (p1 + 2)), some (.int x2), some (.int x3), some (.int x4), some (.int (x5 + (1 : Int32))), some (.long y6), none, some (.int x8), some (.int x9), some (.long y10), none, some (.int x12), some (.int x13)] [.long y10] h Q) (q3 : (¬ wletters ≤ x13) → vp_in x13 5) (q4 : (¬ wletters ≤ x13) → (¬ x13 = x12) → vp_in x13 5) (q5 : (¬ wletters ≤ x13) → (¬ x13 = x12) → vp_in x13 5) (q6 : (¬ wletters ≤ x13) → (¬ x13 = x12) → vp_in x13 5) (q7 : (¬ wletters ≤ x13) → (¬ x13 = x12) → V G mX4_countMatches b 54 [some (.ref 17), some (.ref (p1 + 2)), some (.int x2), some (.int x3), some (.int x4), some (.int x5), some (.long y6), none, some (.int x8), some (.int x9), some (.long (y10 ||| (((vp_updL ostand x13.toNatClampNeg ((((ostand x13.toNatClampNeg)).toUInt64 >>> (((1 : Int32) : Int32).toInt64.toUInt64 &&& Int64.toUInt64 63)).toInt64 ||| (0 : Int64))) x13.toNatClampNeg) &&& (oslip x13.toNatClampNeg)))), none, some (.int x12), some (.int (x13 + (1 : Int32)))] [] (va_up h 22 (3, .inr (5, .inr (.inl (vp_updL ostand x13.toNatClampNeg ((((ostand x13.toNatClampNeg)).toUInt64 >>> (((1 : Int32) : Int32).toInt64.toUInt64 &&& Int64.toUInt64 63)).toInt64 ||| (0 : Int64))))))) Q) (q8 : (¬ wletters ≤ x13) → (x13 = x12) → vp_in x13 5) (q9 : (¬ wletters ≤ x13) → (x13 = x12) → vp_in x13 5) (q10 : (¬ wletters ≤ x13) → (x13 = x12) → vp_in x13 5) (q11 : (¬ wletters ≤ x13) → (x13 = x12) → V G mX4_countMatches b 54 [some (.ref 17), some (.ref (p1 + 2)), some (.int x2), some (.int x3), some (.int x4), some (.int x5), some (.long y6), none, some (.int x8), some (.int x9), some (.long (y10 ||| (((vp_updL ostand x13.toNatClampNeg ((((ostand x13.toNatClampNeg)).toUInt64 >>> (((1 : Int32) : Int32).toInt64.toUInt64 &&& Int64.toUInt64 63)).toInt64 ||| y6)) x13.toNatClampNeg) &&& (oslip x13.toNatClampNeg)))), none, some (.int x12), some (.int (x13 + (1 : Int32)))] [] (va_up h 22 (3, .inr (5, .inr (.inl (vp_updL ostand x13.toNatClampNeg ((((ostand x13.toNatClampNeg)).toUInt64 >>> (((1 : Int32) : Int32).toInt64.toUInt64 &&& Int64.toUInt64 63)).toInt64 ||| y6)))))) Q) : V G mX4_countMatches b 54 [some (.ref 17), some (.ref (p1 + 2)), some (.int x2), some (.int x3), some (.int x4), some (.int x5), some (.long y6), none, some (.int x8), some (.int x9), some (.long y10), none, some (.int x12), some (.int x13)] [] h Q := by
  refine V_iload dX4_countMatches_54 rfl ?_
  refine V_aload_n dX4_countMatches_56 rfl rfl ?_
  refine V_get (ci := 4) (j := 0) (C0 := RX4) (T := TX4) (N := 8) dX4_countMatches_57 rfl g17 (by decide) (by decide) kf_X4_36 rfl ?_
  refine V_getN (ci := 6) (j := 1) (C0 := RX6) (T := TX6) (N := 5) dX4_countMatches_60 rfl g3 (by decide) (by decide) kf_X4_64 rfl ?_
  refine V_icmp_ge (t := 122) dX4_countMatches_63 (by decide) (fun z1 => ?_) (fun z1 => ?_)
  ·
    refine V_iload dX4_countMatches_122 rfl ?_
    refine V_iconst dX4_countMatches_124 ic_1 ?_
    refine V_iadd dX4_countMatches_125 ?_
    refine V_aload_n dX4_countMatches_126 rfl rfl ?_
    refine V_get (ci := 4) (j := 0) (C0 := RX4) (T := TX4) (N := 8) dX4_countMatches_127 rfl g17 (by decide) (by decide) kf_X4_36 rfl ?_
    refine V_getN (ci := 6) (j := 3) (C0 := RX6) (T := TX6) (N := 5) dX4_countMatches_130 rfl g3 (by decide) (by decide) kf_X4_54 rfl ?_
    refine V_icmp_ge (t := 143) dX4_countMatches_133 (by decide) (fun z2 => ?_) (fun z2 => ?_)
    ·
      refine V_iconst dX4_countMatches_143 ic_0 ?_
      refine V_istore dX4_countMatches_144 (Nat.le_of_ble_eq_true rfl) ?_
      refine V_lload dX4_countMatches_146 rfl ?_
      exact V_sub (by exact (And.intro rfl (And.intro rfl (And.intro rfl (And.intro rfl (And.intro rfl (And.intro rfl (And.intro rfl (And.intro rfl (And.intro rfl (And.intro rfl (And.intro rfl (And.intro rfl True.intro))))))))))))) (q1 z1 z2)
    ·
      refine V_iload dX4_countMatches_136 rfl ?_
      refine V_iconst dX4_countMatches_138 ic_1 ?_
      refine V_iadd dX4_countMatches_139 ?_
      refine V_goto (t := 144) dX4_countMatches_140 (by decide) ?_
      refine V_istore dX4_countMatches_144 (Nat.le_of_ble_eq_true rfl) ?_
      refine V_lload dX4_countMatches_146 rfl ?_
      exact V_sub (by exact (And.intro rfl (And.intro rfl (And.intro rfl (And.intro rfl (And.intro rfl (And.intro rfl (And.intro rfl (And.intro rfl (And.intro rfl (And.intro rfl (And.intro rfl (And.intro rfl True.intro))))))))))))) (q2 z1 z2)
  ·
    refine V_aload_n dX4_countMatches_66 rfl rfl ?_
    refine V_get (ci := 4) (j := 6) (C0 := RX4) (T := TX4) (N := 8) dX4_countMatches_67 rfl g17 (by decide) (by decide) kf_X4_30 rfl ?_
    refine V_iload dX4_countMatches_70 rfl ?_
    refine V_aload_n dX4_countMatches_72 rfl rfl ?_
    refine V_get (ci := 4) (j := 6) (C0 := RX4) (T := TX4) (N := 8) dX4_countMatches_73 rfl g17 (by decide) (by decide) kf_X4_30 rfl ?_
    refine V_iload dX4_countMatches_76 rfl ?_
    refine V_lald dX4_countMatches_78 g22 (q3 z1) ?_
    refine V_iconst dX4_countMatches_79 ic_1 ?_
    refine V_lushr dX4_countMatches_80 ?_
    refine V_iload dX4_countMatches_81 rfl ?_
    refine V_iload dX4_countMatches_83 rfl ?_
    refine V_icmp_ne (t := 93) dX4_countMatches_85 (by decide) (fun z3 => ?_) (fun z3 => ?_)
    ·
      refine V_lconst dX4_countMatches_93 lc_0 ?_
      refine V_lor dX4_countMatches_94 ?_
      refine V_last dX4_countMatches_95 g22 (q4 z1 z3) ?_
      refine V_lload dX4_countMatches_96 rfl ?_
      refine V_aload_n dX4_countMatches_98 rfl rfl ?_
      refine V_get (ci := 4) (j := 6) (C0 := RX4) (T := TX4) (N := 8) dX4_countMatches_99 rfl g17 (by decide) (by decide) kf_X4_30 rfl ?_
      refine V_iload dX4_countMatches_102 rfl ?_
      refine V_lald dX4_countMatches_104 rfl (q5 z1 z3) ?_
      refine V_aload_n dX4_countMatches_105 rfl rfl ?_
      refine V_get (ci := 4) (j := 5) (C0 := RX4) (T := TX4) (N := 8) dX4_countMatches_106 rfl g17 (by decide) (by decide) kf_X4_26 rfl ?_
      refine V_iload dX4_countMatches_109 rfl ?_
      refine V_lald dX4_countMatches_111 g21 (q6 z1 z3) ?_
      refine V_land dX4_countMatches_112 ?_
      refine V_lor dX4_countMatches_113 ?_
      refine V_lstore dX4_countMatches_114 (Nat.le_of_ble_eq_true rfl) ?_
      refine V_inc dX4_countMatches_116 ic_1 rfl (Nat.le_of_ble_eq_true rfl) ?_
      refine V_goto (t := 54) dX4_countMatches_119 (by decide) ?_
      exact V_sub (by exact (And.intro rfl (And.intro rfl (And.intro rfl (And.intro rfl (And.intro rfl (And.intro rfl (And.intro rfl (And.intro rfl (And.intro rfl (And.intro rfl (And.intro rfl (And.intro rfl True.intro))))))))))))) (q7 z1 z3)
    ·
      refine V_lload dX4_countMatches_88 rfl ?_
      refine V_goto (t := 94) dX4_countMatches_90 (by decide) ?_
      refine V_lor dX4_countMatches_94 ?_
      refine V_last dX4_countMatches_95 g22 (q8 z1 z3) ?_
      refine V_lload dX4_countMatches_96 rfl ?_
      refine V_aload_n dX4_countMatches_98 rfl rfl ?_
      refine V_get (ci := 4) (j := 6) (C0 := RX4) (T := TX4) (N := 8) dX4_countMatches_99 rfl g17 (by decide) (by decide) kf_X4_30 rfl ?_
      refine V_iload dX4_countMatches_102 rfl ?_
      refine V_lald dX4_countMatches_104 rfl (q9 z1 z3) ?_
      refine V_aload_n dX4_countMatches_105 rfl rfl ?_
      refine V_get (ci := 4) (j := 5) (C0 := RX4) (T := TX4) (N := 8) dX4_countMatches_106 rfl g17 (by decide) (by decide) kf_X4_26 rfl ?_
      refine V_iload dX4_countMatches_109 rfl ?_
      refine V_lald dX4_countMatches_111 g21 (q10 z1 z3) ?_
      refine V_land dX4_countMatches_112 ?_
      refine V_lor dX4_countMatches_113 ?_
      refine V_lstore dX4_countMatches_114 (Nat.le_of_ble_eq_true rfl) ?_
      refine V_inc dX4_countMatches_116 ic_1 rfl (Nat.le_of_ble_eq_true rfl) ?_
      refine V_goto (t := 54) dX4_countMatches_119 (by decide) ?_
      exact V_sub (by exact (And.intro rfl (And.intro rfl (And.intro rfl (And.intro rfl (And.intro rfl (And.intro rfl (And.intro rfl (And.intro rfl (And.intro rfl (And.intro rfl (And.intro rfl (And.intro rfl True.intro))))))))))))) (q11 z1 z3)
theorem tX4_countMatches_7 {G : gx} {b : bg} {h : ah} {Q : Option Value → ah → Prop} {p1 : Nat} {x2 : Int32} {x3 : Int32} {x4 : Int32} (q1 : V G mX4_countMatches b 9 [some (.ref 17), some (.ref (p1 + 2)), some (.int x2), some (.int x3), some (.int x4)] [.int x3, .ref 17] h Q) : V G mX4_countMatches b 7 [some (.ref 17), some (.ref (p1 + 2)), some (.int x2), some (.int x3), some (.int x4)] [] h Q := by
  refine V_aload_n dX4_countMatches_7 rfl rfl ?_
  refine V_iload_n dX4_countMatches_8 rfl rfl ?_
  exact V_sub (by exact (And.intro rfl (And.intro rfl (And.intro rfl (And.intro rfl (And.intro rfl True.intro)))))) (q1)
theorem tX4_countMatches_12 {G : gx} {b : bg} {h : ah} {Q : Option Value → ah → Prop} {p1 : Nat} {x2 : Int32} {x3 : Int32} {x4 : Int32} {s0 : Int32} (q1 : V G mX4_countMatches b 27 [some (.ref 17), some (.ref (p1 + 2)), some (.int x2), some (.int x3), some (.int x4), some (.int s0), some (.long ((1 : Int64) <<< (((x3 - (1 : Int32)) : Int32).toInt64 &&& 63))), none, some (.int (0 : Int32)), some (.int (0 : Int32))] [] h Q) : V G mX4_countMatches b 12 [some (.ref 17), some (.ref (p1 + 2)), some (.int x2), some (.int x3), some (.int x4)] [.int s0] h Q := by
  refine V_istore dX4_countMatches_12 (Nat.le_of_ble_eq_true rfl) ?_
  refine V_lconst dX4_countMatches_14 lc_1 ?_
  refine V_iload_n dX4_countMatches_15 rfl rfl ?_
  refine V_iconst dX4_countMatches_16 ic_1 ?_
  refine V_isub dX4_countMatches_17 ?_
  refine V_lshl dX4_countMatches_18 ?_
  refine V_lstore dX4_countMatches_19 (Nat.le_of_ble_eq_true rfl) ?_
  refine V_iconst dX4_countMatches_21 ic_0 ?_
  refine V_istore dX4_countMatches_22 (Nat.le_of_ble_eq_true rfl) ?_
  refine V_iconst dX4_countMatches_24 ic_0 ?_
  refine V_istore dX4_countMatches_25 (Nat.le_of_ble_eq_true rfl) ?_
  exact V_sub (by exact (And.intro rfl (And.intro rfl (And.intro rfl (And.intro rfl (And.intro rfl (And.intro rfl (And.intro rfl (And.intro rfl (And.intro rfl True.intro)))))))))) (q1)
theorem tX4_countMatches_151 {G : gx} {b : bg} {h : ah} {Q : Option Value → ah → Prop} {p1 : Nat} {x2 : Int32} {x3 : Int32} {x4 : Int32} {x5 : Int32} {y6 : Int64} {x8 : Int32} {x9 : Int32} {y10 : Int64} {x12 : Int32} {x13 : Int32} {s0 : Int32} {okind : Int32} {ofirstMatch : Int32} (g17 : h 17 = (4, .inl [.ref 3, .ref 18, .ref 19, .int okind, .ref 20, .ref 21, .ref 22, .int ofirstMatch])) (q1 : (x4 < s0) → V G mX4_countMatches b 27 [some (.ref 17), some (.ref (p1 + 2)), some (.int x2), some (.int x3), some (.int x4), some (.int x5), some (.long y6), none, some (.int x8), some (.int (x9 + (1 : Int32)))] [] h Q) (q2 : (¬ x4 < s0) → (¬ x8 = (0 : Int32)) → V G mX4_countMatches b 27 [some (.ref 17), some (.ref (p1 + 2)), some (.int x2), some (.int x3), some (.int x4), some (.int x5), some (.long y6), none, some (.int (x8 + (1 : Int32))), some (.int (x9 + (1 : Int32)))] [] h Q) (q3 : (¬ x4 < s0) → (x8 = (0 : Int32)) → V G mX4_countMatches b 27 [some (.ref 17), some (.ref (p1 + 2)), some (.int x2), some (.int x3), some (.int x4), some (.int x5), some (.long y6), none, some (.int (x8 + (1 : Int32))), some (.int (x9 + (1 : Int32)))] [] (va_up h 17 (4, .inl [.ref 3, .ref 18, .ref 19, .int okind, .ref 20, .ref 21, .ref 22, .int x9])) Q) : V G mX4_countMatches b 151 [some (.ref 17), some (.ref (p1 + 2)), some (.int x2), some (.int x3), some (.int x4), some (.int x5), some (.long y6), none, some (.int x8), some (.int x9), some (.long y10), none, some (.int x12), some (.int x13)] [.int s0] h Q := by
  refine V_iload dX4_countMatches_151 rfl ?_
  refine V_icmp_gt (t := 170) dX4_countMatches_153 (by decide) (fun z1 => ?_) (fun z1 => ?_)
  ·
    refine V_inc dX4_countMatches_170 ic_1 rfl (Nat.le_of_ble_eq_true rfl) ?_
    refine V_goto (t := 27) dX4_countMatches_173 (by decide) ?_
    exact V_sub (by exact (And.intro rfl (And.intro rfl (And.intro rfl (And.intro rfl (And.intro rfl (And.intro rfl (And.intro rfl (And.intro rfl (And.intro rfl True.intro)))))))))) (q1 z1)
  ·
    refine V_iload dX4_countMatches_156 rfl ?_
    refine V_if_ne (t := 167) dX4_countMatches_158 (by decide) (fun z2 => ?_) (fun z2 => ?_)
    ·
      refine V_inc dX4_countMatches_167 ic_1 rfl (Nat.le_of_ble_eq_true rfl) ?_
      refine V_inc dX4_countMatches_170 ic_1 rfl (Nat.le_of_ble_eq_true rfl) ?_
      refine V_goto (t := 27) dX4_countMatches_173 (by decide) ?_
      exact V_sub (by exact (And.intro rfl (And.intro rfl (And.intro rfl (And.intro rfl (And.intro rfl (And.intro rfl (And.intro rfl (And.intro rfl (And.intro rfl True.intro)))))))))) (q2 z1 z2)
    ·
      refine V_aload_n dX4_countMatches_161 rfl rfl ?_
      refine V_iload dX4_countMatches_162 rfl ?_
      refine V_put (ci := 4) (j := 7) (C0 := RX4) (T := TX4) (N := 8) (ty := .int) dX4_countMatches_164 rfl g17 (by decide) (by decide) kf_X4_33 rfl (by decide +kernel) rfl rfl (Nat.le_of_ble_eq_true rfl) ?_
      refine V_inc dX4_countMatches_167 ic_1 rfl (Nat.le_of_ble_eq_true rfl) ?_
      refine V_inc dX4_countMatches_170 ic_1 rfl (Nat.le_of_ble_eq_true rfl) ?_
      refine V_goto (t := 27) dX4_countMatches_173 (by decide) ?_
      exact V_sub (by exact (And.intro rfl (And.intro rfl (And.intro rfl (And.intro rfl (And.intro rfl (And.intro rfl (And.intro rfl (And.intro rfl (And.intro rfl True.intro)))))))))) (q3 z1 z2)
theorem cX4_countMatches_4 {G : gx} {d mc ms cc zz d2 mc2 ms2 : Nat} {L : List (Option Value)} {S : List Value} {h : ah} {Q Q2 : Option Value → ah → Prop} {k : Nat} {fs : List Value} {a0 a1 a2 : Value} (hM : Ct G mX4_noteSlips d2 mc2 ms2 (.ref (k + 2) :: [a0, a1, a2]) h Q2) (hc : h (k + 2) = (4, .inl fs)) (hdd : d2 < d ∧ d ≤ 9) (hrm : (S.map fun v => v.category).sum ≤ 8) (hf : cc + mc2 ≤ mc ∧ zz + ms2 ≤ ms) (kk : ∀ r h2, Q2 r h2 → V G mX4_countMatches (d, mc, ms, cc + mc2, zz + ms2) 7 L (r.toList ++ S) h2 Q) : V G mX4_countMatches (d, mc, ms, cc, zz) 4 L (a2 :: a1 :: a0 :: .ref (k + 2) :: S) h Q := V_callV (ci := 4) (T := TX4) (N := 8) hM dX4_countMatches_4 ⟨km_X4_81, ki_X4_noteSlips, ks_X4_noteSlips⟩ cw_X4_noteSlips rfl hc (by decide) hdd rfl rfl hrm hf kk
theorem cX4_countMatches_9 {G : gx} {d mc ms cc zz d2 mc2 ms2 : Nat} {L : List (Option Value)} {S : List Value} {h : ah} {Q Q2 : Option Value → ah → Prop} {k : Nat} {fs : List Value} {a0 : Value} (hM : Ct G mX4_noteFirstPlaces d2 mc2 ms2 (.ref (k + 2) :: [a0]) h Q2) (hc : h (k + 2) = (4, .inl fs)) (hdd : d2 < d ∧ d ≤ 9) (hrm : (S.map fun v => v.category).sum ≤ 8) (hf : cc + mc2 ≤ mc ∧ zz + ms2 ≤ ms) (kk : ∀ r h2, Q2 r h2 → V G mX4_countMatches (d, mc, ms, cc + mc2, zz + ms2) 12 L (r.toList ++ S) h2 Q) : V G mX4_countMatches (d, mc, ms, cc, zz) 9 L (a0 :: .ref (k + 2) :: S) h Q := V_callV (ci := 4) (T := TX4) (N := 8) hM dX4_countMatches_9 ⟨km_X4_85, ki_X4_noteFirstPlaces, ks_X4_noteFirstPlaces⟩ cw_X4_noteFirstPlaces rfl hc (by decide) hdd rfl rfl hrm hf kk
theorem cX4_countMatches_148 {G : gx} {d mc ms cc zz d2 mc2 ms2 : Nat} {L : List (Option Value)} {S : List Value} {h : ah} {Q Q2 : Option Value → ah → Prop} {a0 : Value} (hM : Ct G mJ13_bitCount_95d88 d2 mc2 ms2 [a0] h Q2) (hdd : d2 < d ∧ d ≤ 9) (hrm : (S.map fun v => v.category).sum ≤ 8) (hf : cc + mc2 ≤ mc ∧ zz + ms2 ≤ ms) (kk : ∀ r h2, Q2 r h2 → V G mX4_countMatches (d, mc, ms, cc + mc2, zz + ms2) 151 L (r.toList ++ S) h2 Q) : V G mX4_countMatches (d, mc, ms, cc, zz) 148 L (a0 :: S) h Q := V_callS hM dX4_countMatches_148 ⟨km_X4_88, kt_J13_bitCount_95d88⟩ cw_J13_bitCount_95d88 hdd rfl rfl hrm hf kk
theorem tX4_noteSlips_0 {G : gx} {b : bg} {h : ah} {Q : Option Value → ah → Prop} {p1 : Nat} {x2 : Int32} {x3 : Int32} {okind : Int32} {ofirstMatch : Int32} (g17 : h 17 = (4, .inl [.ref 3, .ref 18, .ref 19, .int okind, .ref 20, .ref 21, .ref 22, .int ofirstMatch])) (q1 : V G mX4_noteSlips b 5 [some (.ref 17), some (.ref (p1 + 2)), some (.int x2), some (.int x3)] [.long (0 : Int64), .ref 21] h Q) : V G mX4_noteSlips b 0 [some (.ref 17), some (.ref (p1 + 2)), some (.int x2), some (.int x3)] [] h Q := by
  refine V_aload_n dX4_noteSlips_0 rfl rfl ?_
  refine V_get (ci := 4) (j := 5) (C0 := RX4) (T := TX4) (N := 8) dX4_noteSlips_1 rfl g17 (by decide) (by decide) kf_X4_26 rfl ?_
  refine V_lconst dX4_noteSlips_4 lc_0 ?_
  exact V_sub (by exact (And.intro rfl (And.intro rfl (And.intro rfl (And.intro rfl True.intro))))) (q1)
theorem tX4_noteSlips_11 {G : gx} {b : bg} {h : ah} {Q : Option Value → ah → Prop} {p1 : Nat} {x2 : Int32} {x3 : Int32} {x4 : Int32} {fp1 : Nat → Int32} {np1 : Nat} (gp12 : h (p1 + 2) = (0, .inr (np1, .inl fp1))) (q1 : (x3 ≤ x4) → Q none h) (q2 : (¬ x3 ≤ x4) → vp_in (x2 + x4) np1) (q3 : (¬ x3 ≤ x4) → V G mX4_noteSlips b 28 [some (.ref 17), some (.ref (p1 + 2)), some (.int x2), some (.int x3), some (.int x4), some (.int (fp1 (x2 + x4).toNatClampNeg)), some (.int (0 : Int32))] [] h Q) : V G mX4_noteSlips b 11 [some (.ref 17), some (.ref (p1 + 2)), some (.int x2), some (.int x3), some (.int x4)] [] h Q := by
  refine V_iload dX4_noteSlips_11 rfl ?_
  refine V_iload_n dX4_noteSlips_13 rfl rfl ?_
  refine V_icmp_ge (t := 85) dX4_noteSlips_14 (by decide) (fun z1 => ?_) (fun z1 => ?_)
  ·
    exact V_vret dX4_noteSlips_85 rfl (q1 z1)
  ·
    refine V_aload_n dX4_noteSlips_17 rfl rfl ?_
    refine V_iload_n dX4_noteSlips_18 rfl rfl ?_
    refine V_iload dX4_noteSlips_19 rfl ?_
    refine V_iadd dX4_noteSlips_21 ?_
    refine V_iald dX4_noteSlips_22 gp12 (q2 z1) ?_
    refine V_istore dX4_noteSlips_23 (Nat.le_of_ble_eq_true rfl) ?_
    refine V_iconst dX4_noteSlips_25 ic_0 ?_
    refine V_istore dX4_noteSlips_26 (Nat.le_of_ble_eq_true rfl) ?_
    exact V_sub (by exact (And.intro rfl (And.intro rfl (And.intro rfl (And.intro rfl (And.intro rfl (And.intro rfl (And.intro rfl True.intro)))))))) (q3 z1)
theorem tX4_noteSlips_28 {G : gx} {b : bg} {h : ah} {Q : Option Value → ah → Prop} {p1 : Nat} {x2 : Int32} {x3 : Int32} {x4 : Int32} {x5 : Int32} {x6 : Int32} {okind : Int32} {ofirstMatch : Int32} {wletters : Int32} {wlength : Int32} {wall : Int32} {whigh : Int32} (g17 : h 17 = (4, .inl [.ref 3, .ref 18, .ref 19, .int okind, .ref 20, .ref 21, .ref 22, .int ofirstMatch])) (g3 : h 3 = (6, .inl [.ref 4, .int wletters, .int wlength, .int wall, .int whigh])) (q1 : (wletters ≤ x6) → V G mX4_noteSlips b 11 [some (.ref 17), some (.ref (p1 + 2)), some (.int x2), some (.int x3), some (.int (x4 + (1 : Int32)))] [] h Q) (q2 : (¬ wletters ≤ x6) → V G mX4_noteSlips b 46 [some (.ref 17), some (.ref (p1 + 2)), some (.int x2), some (.int x3), some (.int x4), some (.int x5), some (.int x6)] [.int x5, .ref 3] h Q) : V G mX4_noteSlips b 28 [some (.ref 17), some (.ref (p1 + 2)), some (.int x2), some (.int x3), some (.int x4), some (.int x5), some (.int x6)] [] h Q := by
  refine V_iload dX4_noteSlips_28 rfl ?_
  refine V_aload_n dX4_noteSlips_30 rfl rfl ?_
  refine V_get (ci := 4) (j := 0) (C0 := RX4) (T := TX4) (N := 8) dX4_noteSlips_31 rfl g17 (by decide) (by decide) kf_X4_36 rfl ?_
  refine V_getN (ci := 6) (j := 1) (C0 := RX6) (T := TX6) (N := 5) dX4_noteSlips_34 rfl g3 (by decide) (by decide) kf_X4_64 rfl ?_
  refine V_icmp_ge (t := 79) dX4_noteSlips_37 (by decide) (fun z1 => ?_) (fun z1 => ?_)
  ·
    refine V_inc dX4_noteSlips_79 ic_1 rfl (Nat.le_of_ble_eq_true rfl) ?_
    refine V_goto (t := 11) dX4_noteSlips_82 (by decide) ?_
    exact V_sub (by exact (And.intro rfl (And.intro rfl (And.intro rfl (And.intro rfl (And.intro rfl True.intro)))))) (q1 z1)
  ·
    refine V_aload_n dX4_noteSlips_40 rfl rfl ?_
    refine V_get (ci := 4) (j := 0) (C0 := RX4) (T := TX4) (N := 8) dX4_noteSlips_41 rfl g17 (by decide) (by decide) kf_X4_36 rfl ?_
    refine V_iload dX4_noteSlips_44 rfl ?_
    exact V_sub (by exact (And.intro rfl (And.intro rfl (And.intro rfl (And.intro rfl (And.intro rfl (And.intro rfl (And.intro rfl True.intro)))))))) (q2 z1)
theorem tX4_noteSlips_8 {G : gx} {b : bg} {h : ah} {Q : Option Value → ah → Prop} {p1 : Nat} {x2 : Int32} {x3 : Int32} (q1 : V G mX4_noteSlips b 11 [some (.ref 17), some (.ref (p1 + 2)), some (.int x2), some (.int x3), some (.int (0 : Int32))] [] h Q) : V G mX4_noteSlips b 8 [some (.ref 17), some (.ref (p1 + 2)), some (.int x2), some (.int x3)] [] h Q := by
  refine V_iconst dX4_noteSlips_8 ic_0 ?_
  refine V_istore dX4_noteSlips_9 (Nat.le_of_ble_eq_true rfl) ?_
  exact V_sub (by exact (And.intro rfl (And.intro rfl (And.intro rfl (And.intro rfl (And.intro rfl True.intro)))))) (q1)
theorem tX4_noteSlips_49 {G : gx} {b : bg} {h : ah} {Q : Option Value → ah → Prop} {p1 : Nat} {x2 : Int32} {x3 : Int32} {x4 : Int32} {x5 : Int32} {x6 : Int32} {s0 : Int32} {okind : Int32} {ofirstMatch : Int32} {oslip : Nat → Int64} (g17 : h 17 = (4, .inl [.ref 3, .ref 18, .ref 19, .int okind, .ref 20, .ref 21, .ref 22, .int ofirstMatch])) (g21 : h 21 = (3, .inr (5, .inr (.inl oslip)))) (q1 : (s0 = (0 : Int32)) → V G mX4_noteSlips b 11 [some (.ref 17), some (.ref (p1 + 2)), some (.int x2), some (.int x3), some (.int (x4 + (1 : Int32)))] [] h Q) (q2 : (¬ s0 = (0 : Int32)) → (x6 = x5) → V G mX4_noteSlips b 28 [some (.ref 17), some (.ref (p1 + 2)), some (.int x2), some (.int x3), some (.int x4), some (.int x5), some (.int (x6 + (1 : Int32)))] [] h Q) (q3 : (¬ s0 = (0 : Int32)) → (¬ x6 = x5) → vp_in x6 5) (q4 : (¬ s0 = (0 : Int32)) → (¬ x6 = x5) → vp_in x6 5) (q5 : (¬ s0 = (0 : Int32)) → (¬ x6 = x5) → V G mX4_noteSlips b 28 [some (.ref 17), some (.ref (p1 + 2)), some (.int x2), some (.int x3), some (.int x4), some (.int x5), some (.int (x6 + (1 : Int32)))] [] (va_up h 21 (3, .inr (5, .inr (.inl (vp_updL oslip x6.toNatClampNeg ((oslip x6.toNatClampNeg) ||| ((1 : Int64) <<< ((x4 : Int32).toInt64 &&& 63)))))))) Q) : V G mX4_noteSlips b 49 [some (.ref 17), some (.ref (p1 + 2)), some (.int x2), some (.int x3), some (.int x4), some (.int x5), some (.int x6)] [.int s0] h Q := by
  refine V_if_eq (t := 79) dX4_noteSlips_49 (by decide) (fun z1 => ?_) (fun z1 => ?_)
  ·
    refine V_inc dX4_noteSlips_79 ic_1 rfl (Nat.le_of_ble_eq_true rfl) ?_
    refine V_goto (t := 11) dX4_noteSlips_82 (by decide) ?_
    exact V_sub (by exact (And.intro rfl (And.intro rfl (And.intro rfl (And.intro rfl (And.intro rfl True.intro)))))) (q1 z1)
  ·
    refine V_iload dX4_noteSlips_52 rfl ?_
    refine V_iload dX4_noteSlips_54 rfl ?_
    refine V_icmp_eq (t := 73) dX4_noteSlips_56 (by decide) (fun z2 => ?_) (fun z2 => ?_)
    ·
      refine V_inc dX4_noteSlips_73 ic_1 rfl (Nat.le_of_ble_eq_true rfl) ?_
      refine V_goto (t := 28) dX4_noteSlips_76 (by decide) ?_
      exact V_sub (by exact (And.intro rfl (And.intro rfl (And.intro rfl (And.intro rfl (And.intro rfl (And.intro rfl (And.intro rfl True.intro)))))))) (q2 z1 z2)
    ·
      refine V_aload_n dX4_noteSlips_59 rfl rfl ?_
      refine V_get (ci := 4) (j := 5) (C0 := RX4) (T := TX4) (N := 8) dX4_noteSlips_60 rfl g17 (by decide) (by decide) kf_X4_26 rfl ?_
      refine V_iload dX4_noteSlips_63 rfl ?_
      refine V_dup2 dX4_noteSlips_65 rfl rfl ?_
      refine V_lald dX4_noteSlips_66 g21 (q3 z1 z2) ?_
      refine V_lconst dX4_noteSlips_67 lc_1 ?_
      refine V_iload dX4_noteSlips_68 rfl ?_
      refine V_lshl dX4_noteSlips_70 ?_
      refine V_lor dX4_noteSlips_71 ?_
      refine V_last dX4_noteSlips_72 g21 (q4 z1 z2) ?_
      refine V_inc dX4_noteSlips_73 ic_1 rfl (Nat.le_of_ble_eq_true rfl) ?_
      refine V_goto (t := 28) dX4_noteSlips_76 (by decide) ?_
      exact V_sub (by exact (And.intro rfl (And.intro rfl (And.intro rfl (And.intro rfl (And.intro rfl (And.intro rfl (And.intro rfl True.intro)))))))) (q5 z1 z2)
theorem cX4_noteSlips_5 {G : gx} {d mc ms cc zz d2 mc2 ms2 : Nat} {L : List (Option Value)} {S : List Value} {h : ah} {Q Q2 : Option Value → ah → Prop} {a0 a1 : Value} (hM : Ct G mJ7_fill_d0a16 d2 mc2 ms2 [a0, a1] h Q2) (hdd : d2 < d ∧ d ≤ 9) (hrm : (S.map fun v => v.category).sum ≤ 8) (hf : cc + mc2 ≤ mc ∧ zz + ms2 ≤ ms) (kk : ∀ r h2, Q2 r h2 → V G mX4_noteSlips (d, mc, ms, cc + mc2, zz + ms2) 8 L (r.toList ++ S) h2 Q) : V G mX4_noteSlips (d, mc, ms, cc, zz) 5 L (a1 :: a0 :: S) h Q := V_callS hM dX4_noteSlips_5 ⟨km_X4_94, kt_J7_fill_d0a16⟩ cw_J7_fill_d0a16 hdd rfl rfl hrm hf kk
theorem cX4_noteSlips_46 {G : gx} {d mc ms cc zz d2 mc2 ms2 : Nat} {L : List (Option Value)} {S : List Value} {h : ah} {Q Q2 : Option Value → ah → Prop} {k : Nat} {fs : List Value} {a0 : Value} (hM : Ct G mX6_isLetter d2 mc2 ms2 (.ref (k + 2) :: [a0]) h Q2) (hc : h (k + 2) = (6, .inl fs)) (hdd : d2 < d ∧ d ≤ 9) (hrm : (S.map fun v => v.category).sum ≤ 8) (hf : cc + mc2 ≤ mc ∧ zz + ms2 ≤ ms) (kk : ∀ r h2, Q2 r h2 → V G mX4_noteSlips (d, mc, ms, cc + mc2, zz + ms2) 49 L (r.toList ++ S) h2 Q) : V G mX4_noteSlips (d, mc, ms, cc, zz) 46 L (a0 :: .ref (k + 2) :: S) h Q := V_callVN (ci := 6) (T := TX6) (N := 5) hM dX4_noteSlips_46 ⟨km_X4_97, ki_X6_isLetter, ks_X6_isLetter⟩ cw_X6_isLetter rfl hc (by decide) hdd rfl rfl hrm hf kk
theorem tX4_noteFirstPlaces_0 {G : gx} {b : bg} {h : ah} {Q : Option Value → ah → Prop} {x1 : Int32} {okind : Int32} {ofirstMatch : Int32} (g17 : h 17 = (4, .inl [.ref 3, .ref 18, .ref 19, .int okind, .ref 20, .ref 21, .ref 22, .int ofirstMatch])) (q1 : V G mX4_noteFirstPlaces b 5 [some (.ref 17), some (.int x1)] [.long (0 : Int64), .ref 22] h Q) : V G mX4_noteFirstPlaces b 0 [some (.ref 17), some (.int x1)] [] h Q := by
  refine V_aload_n dX4_noteFirstPlaces_0 rfl rfl ?_
  refine V_get (ci := 4) (j := 6) (C0 := RX4) (T := TX4) (N := 8) dX4_noteFirstPlaces_1 rfl g17 (by decide) (by decide) kf_X4_30 rfl ?_
  refine V_lconst dX4_noteFirstPlaces_4 lc_0 ?_
  exact V_sub (by exact (And.intro rfl (And.intro rfl True.intro))) (q1)
theorem tX4_noteFirstPlaces_12 {G : gx} {b : bg} {h : ah} {Q : Option Value → ah → Prop} {x1 : Int32} {x2 : Int32} {x3 : Int32} {okind : Int32} {ofirstMatch : Int32} {olet : Nat → Int32} {ostand : Nat → Int64} {wletters : Int32} {wlength : Int32} {wall : Int32} {whigh : Int32} (g17 : h 17 = (4, .inl [.ref 3, .ref 18, .ref 19, .int okind, .ref 20, .ref 21, .ref 22, .int ofirstMatch])) (g18 : h 18 = (1, .inr (20000, .inl olet))) (g22 : h 22 = (3, .inr (5, .inr (.inl ostand)))) (g3 : h 3 = (6, .inl [.ref 4, .int wletters, .int wlength, .int wall, .int whigh])) (q1 : (x1 ≤ x3) → Q (some (.int x2)) h) (q2 : (¬ x1 ≤ x3) → vp_in x2 20000) (q3 : (¬ x1 ≤ x3) → vp_in (olet x2.toNatClampNeg) 5) (q4 : (¬ x1 ≤ x3) → vp_in (olet x2.toNatClampNeg) 5) (q5 : (¬ x1 ≤ x3) → (wall ≤ (x2 + (1 : Int32))) → V G mX4_noteFirstPlaces b 12 [some (.ref 17), some (.int x1), some (.int (0 : Int32)), some (.int (x3 + (1 : Int32)))] [] (va_up h 22 (3, .inr (5, .inr (.inl (vp_updL ostand (olet x2.toNatClampNeg).toNatClampNeg ((ostand (olet x2.toNatClampNeg).toNatClampNeg) ||| ((1 : Int64) <<< ((x3 : Int32).toInt64 &&& 63)))))))) Q) (q6 : (¬ x1 ≤ x3) → (¬ wall ≤ (x2 + (1 : Int32))) → V G mX4_noteFirstPlaces b 12 [some (.ref 17), some (.int x1), some (.int (x2 + (1 : Int32))), some (.int (x3 + (1 : Int32)))] [] (va_up h 22 (3, .inr (5, .inr (.inl (vp_updL ostand (olet x2.toNatClampNeg).toNatClampNeg ((ostand (olet x2.toNatClampNeg).toNatClampNeg) ||| ((1 : Int64) <<< ((x3 : Int32).toInt64 &&& 63)))))))) Q) : V G mX4_noteFirstPlaces b 12 [some (.ref 17), some (.int x1), some (.int x2), some (.int x3)] [] h Q := by
  refine V_iload_n dX4_noteFirstPlaces_12 rfl rfl ?_
  refine V_iload_n dX4_noteFirstPlaces_13 rfl rfl ?_
  refine V_icmp_ge (t := 61) dX4_noteFirstPlaces_14 (by decide) (fun z1 => ?_) (fun z1 => ?_)
  ·
    refine V_iload_n dX4_noteFirstPlaces_61 rfl rfl ?_
    exact V_iret dX4_noteFirstPlaces_62 rfl (q1 z1)
  ·
    refine V_aload_n dX4_noteFirstPlaces_17 rfl rfl ?_
    refine V_get (ci := 4) (j := 6) (C0 := RX4) (T := TX4) (N := 8) dX4_noteFirstPlaces_18 rfl g17 (by decide) (by decide) kf_X4_30 rfl ?_
    refine V_aload_n dX4_noteFirstPlaces_21 rfl rfl ?_
    refine V_get (ci := 4) (j := 1) (C0 := RX4) (T := TX4) (N := 8) dX4_noteFirstPlaces_22 rfl g17 (by decide) (by decide) kf_X4_9 rfl ?_
    refine V_iload_n dX4_noteFirstPlaces_25 rfl rfl ?_
    refine V_bald dX4_noteFirstPlaces_26 g18 (q2 z1) ?_
    refine V_dup2 dX4_noteFirstPlaces_27 rfl rfl ?_
    refine V_lald dX4_noteFirstPlaces_28 g22 (q3 z1) ?_
    refine V_lconst dX4_noteFirstPlaces_29 lc_1 ?_
    refine V_iload_n dX4_noteFirstPlaces_30 rfl rfl ?_
    refine V_lshl dX4_noteFirstPlaces_31 ?_
    refine V_lor dX4_noteFirstPlaces_32 ?_
    refine V_last dX4_noteFirstPlaces_33 g22 (q4 z1) ?_
    refine V_iload_n dX4_noteFirstPlaces_34 rfl rfl ?_
    refine V_iconst dX4_noteFirstPlaces_35 ic_1 ?_
    refine V_iadd dX4_noteFirstPlaces_36 ?_
    refine V_aload_n dX4_noteFirstPlaces_37 rfl rfl ?_
    refine V_get (ci := 4) (j := 0) (C0 := RX4) (T := TX4) (N := 8) dX4_noteFirstPlaces_38 rfl g17 (by decide) (by decide) kf_X4_36 rfl ?_
    refine V_getN (ci := 6) (j := 3) (C0 := RX6) (T := TX6) (N := 5) dX4_noteFirstPlaces_41 rfl g3 (by decide) (by decide) kf_X4_54 rfl ?_
    refine V_icmp_ge (t := 53) dX4_noteFirstPlaces_44 (by decide) (fun z2 => ?_) (fun z2 => ?_)
    ·
      refine V_iconst dX4_noteFirstPlaces_53 ic_0 ?_
      refine V_istore_n dX4_noteFirstPlaces_54 rfl (Nat.le_of_ble_eq_true rfl) ?_
      refine V_inc dX4_noteFirstPlaces_55 ic_1 rfl (Nat.le_of_ble_eq_true rfl) ?_
      refine V_goto (t := 12) dX4_noteFirstPlaces_58 (by decide) ?_
      exact V_sub (by exact (And.intro rfl (And.intro rfl (And.intro rfl (And.intro rfl True.intro))))) (q5 z1 z2)
    ·
      refine V_iload_n dX4_noteFirstPlaces_47 rfl rfl ?_
      refine V_iconst dX4_noteFirstPlaces_48 ic_1 ?_
      refine V_iadd dX4_noteFirstPlaces_49 ?_
      refine V_goto (t := 54) dX4_noteFirstPlaces_50 (by decide) ?_
      refine V_istore_n dX4_noteFirstPlaces_54 rfl (Nat.le_of_ble_eq_true rfl) ?_
      refine V_inc dX4_noteFirstPlaces_55 ic_1 rfl (Nat.le_of_ble_eq_true rfl) ?_
      refine V_goto (t := 12) dX4_noteFirstPlaces_58 (by decide) ?_
      exact V_sub (by exact (And.intro rfl (And.intro rfl (And.intro rfl (And.intro rfl True.intro))))) (q6 z1 z2)
theorem tX4_noteFirstPlaces_8 {G : gx} {b : bg} {h : ah} {Q : Option Value → ah → Prop} {x1 : Int32} (q1 : V G mX4_noteFirstPlaces b 12 [some (.ref 17), some (.int x1), some (.int (0 : Int32)), some (.int (1 : Int32))] [] h Q) : V G mX4_noteFirstPlaces b 8 [some (.ref 17), some (.int x1)] [] h Q := by
  refine V_iconst dX4_noteFirstPlaces_8 ic_0 ?_
  refine V_istore_n dX4_noteFirstPlaces_9 rfl (Nat.le_of_ble_eq_true rfl) ?_
  refine V_iconst dX4_noteFirstPlaces_10 ic_1 ?_
  refine V_istore_n dX4_noteFirstPlaces_11 rfl (Nat.le_of_ble_eq_true rfl) ?_
  exact V_sub (by exact (And.intro rfl (And.intro rfl (And.intro rfl (And.intro rfl True.intro))))) (q1)
theorem cX4_noteFirstPlaces_5 {G : gx} {d mc ms cc zz d2 mc2 ms2 : Nat} {L : List (Option Value)} {S : List Value} {h : ah} {Q Q2 : Option Value → ah → Prop} {a0 a1 : Value} (hM : Ct G mJ7_fill_d0a16 d2 mc2 ms2 [a0, a1] h Q2) (hdd : d2 < d ∧ d ≤ 9) (hrm : (S.map fun v => v.category).sum ≤ 8) (hf : cc + mc2 ≤ mc ∧ zz + ms2 ≤ ms) (kk : ∀ r h2, Q2 r h2 → V G mX4_noteFirstPlaces (d, mc, ms, cc + mc2, zz + ms2) 8 L (r.toList ++ S) h2 Q) : V G mX4_noteFirstPlaces (d, mc, ms, cc, zz) 5 L (a1 :: a0 :: S) h Q := V_callS hM dX4_noteFirstPlaces_5 ⟨km_X4_94, kt_J7_fill_d0a16⟩ cw_J7_fill_d0a16 hdd rfl rfl hrm hf kk
