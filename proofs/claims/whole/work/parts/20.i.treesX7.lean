/-! trees of X7 -/
theorem tX7_wheel_0 {G : gx} {b : bg} {h : ah} {Q : Option Value → ah → Prop} {x1 : Int32} {x2 : Int32} (q1 : V G mX7_wheel b 2 [some (.ref 2), some (.int x1), some (.int x2)] [.int x2, .int x1] h Q) : V G mX7_wheel b 0 [some (.ref 2), some (.int x1), some (.int x2)] [] h Q := by
  refine V_iload_n dX7_wheel_0 rfl rfl ?_
  refine V_iload_n dX7_wheel_1 rfl rfl ?_
  exact V_sub (by exact (And.intro rfl (And.intro rfl (And.intro rfl True.intro)))) (q1)
theorem tX7_wheel_5 {G : gx} {b : bg} {h : ah} {Q : Option Value → ah → Prop} {x1 : Int32} {x2 : Int32} {s0 : Int32} {ufirstFound : Int32} {ulatestFinding : Int32} (g2 : h 2 = (7, .inl [.ref 3, .ref 5, .ref 9, .ref 17, .ref 23, .ref 36, .ref 38, .int ufirstFound, .int ulatestFinding])) (q1 : (¬ s0 = (0 : Int32)) → V G mX7_wheel b 19 [some (.ref 2), some (.int x1), some (.int x2), some (.int s0)] [.int x2, .int x1, .ref 3] h Q) (q2 : (s0 = (0 : Int32)) → Q (some (.int (-2 : Int32))) h) : V G mX7_wheel b 5 [some (.ref 2), some (.int x1), some (.int x2)] [.int s0] h Q := by
  refine V_istore_n dX7_wheel_5 rfl (Nat.le_of_ble_eq_true rfl) ?_
  refine V_iload_n dX7_wheel_6 rfl rfl ?_
  refine V_if_ne (t := 13) dX7_wheel_7 (by decide) (fun z1 => ?_) (fun z1 => ?_)
  ·
    refine V_aload_n dX7_wheel_13 rfl rfl ?_
    refine V_get (ci := 7) (j := 0) (C0 := RX7) (T := TX7) (N := 9) dX7_wheel_14 rfl g2 (by decide) (by decide) kf_X7_10 rfl ?_
    refine V_iload_n dX7_wheel_17 rfl rfl ?_
    refine V_iload_n dX7_wheel_18 rfl rfl ?_
    exact V_sub (by exact (And.intro rfl (And.intro rfl (And.intro rfl (And.intro rfl True.intro))))) (q1 z1)
  ·
    refine V_bipush dX7_wheel_10 bp_m2 ?_
    exact V_iret dX7_wheel_12 rfl (q2 z1)
theorem tX7_wheel_22 {G : gx} {b : bg} {h : ah} {Q : Option Value → ah → Prop} {x1 : Int32} {x2 : Int32} {x3 : Int32} {ufirstFound : Int32} {ulatestFinding : Int32} (g2 : h 2 = (7, .inl [.ref 3, .ref 5, .ref 9, .ref 17, .ref 23, .ref 36, .ref 38, .int ufirstFound, .int ulatestFinding])) (q1 : V G mX7_wheel b 26 [some (.ref 2), some (.int x1), some (.int x2), some (.int x3)] [.ref 9] h Q) : V G mX7_wheel b 22 [some (.ref 2), some (.int x1), some (.int x2), some (.int x3)] [] h Q := by
  refine V_aload_n dX7_wheel_22 rfl rfl ?_
  refine V_get (ci := 7) (j := 2) (C0 := RX7) (T := TX7) (N := 9) dX7_wheel_23 rfl g2 (by decide) (by decide) kf_X7_28 rfl ?_
  exact V_sub (by exact (And.intro rfl (And.intro rfl (And.intro rfl (And.intro rfl True.intro))))) (q1)
theorem tX7_wheel_29 {G : gx} {b : bg} {h : ah} {Q : Option Value → ah → Prop} {x1 : Int32} {x2 : Int32} {x3 : Int32} {ufirstFound : Int32} {ulatestFinding : Int32} (g2 : h 2 = (7, .inl [.ref 3, .ref 5, .ref 9, .ref 17, .ref 23, .ref 36, .ref 38, .int ufirstFound, .int ulatestFinding])) (q1 : V G mX7_wheel b 33 [some (.ref 2), some (.int x1), some (.int x2), some (.int x3)] [.ref 17] h Q) : V G mX7_wheel b 29 [some (.ref 2), some (.int x1), some (.int x2), some (.int x3)] [] h Q := by
  refine V_aload_n dX7_wheel_29 rfl rfl ?_
  refine V_get (ci := 7) (j := 3) (C0 := RX7) (T := TX7) (N := 9) dX7_wheel_30 rfl g2 (by decide) (by decide) kf_X7_35 rfl ?_
  exact V_sub (by exact (And.intro rfl (And.intro rfl (And.intro rfl (And.intro rfl True.intro))))) (q1)
theorem tX7_wheel_36 {G : gx} {b : bg} {h : ah} {Q : Option Value → ah → Prop} {x1 : Int32} {x2 : Int32} {x3 : Int32} {ufirstFound : Int32} {ulatestFinding : Int32} (g2 : h 2 = (7, .inl [.ref 3, .ref 5, .ref 9, .ref 17, .ref 23, .ref 36, .ref 38, .int ufirstFound, .int ulatestFinding])) (q1 : Q (some (.int x3)) (va_up h 2 (7, .inl [.ref 3, .ref 5, .ref 9, .ref 17, .ref 23, .ref 36, .ref 38, .int (-1 : Int32), .int ulatestFinding]))) : V G mX7_wheel b 36 [some (.ref 2), some (.int x1), some (.int x2), some (.int x3)] [] h Q := by
  refine V_aload_n dX7_wheel_36 rfl rfl ?_
  refine V_iconst dX7_wheel_37 ic_m1 ?_
  refine V_put (ci := 7) (j := 7) (C0 := RX7) (T := TX7) (N := 9) (ty := .int) dX7_wheel_38 rfl g2 (by decide) (by decide) kf_X7_60 rfl (by decide +kernel) rfl rfl (Nat.le_of_ble_eq_true rfl) ?_
  refine V_iload_n dX7_wheel_41 rfl rfl ?_
  exact V_iret dX7_wheel_42 rfl (q1)
theorem cX7_wheel_2 {G : gx} {d mc ms cc zz d2 mc2 ms2 : Nat} {L : List (Option Value)} {S : List Value} {h : ah} {Q Q2 : Option Value → ah → Prop} {a0 a1 : Value} (hM : Ct G mX6_howMany d2 mc2 ms2 [a0, a1] h Q2) (hdd : d2 < d ∧ d ≤ 9) (hrm : (S.map fun v => v.category).sum ≤ 8) (hf : cc + mc2 ≤ mc ∧ zz + ms2 ≤ ms) (kk : ∀ r h2, Q2 r h2 → V G mX7_wheel (d, mc, ms, cc + mc2, zz + ms2) 5 L (r.toList ++ S) h2 Q) : V G mX7_wheel (d, mc, ms, cc, zz) 2 L (a1 :: a0 :: S) h Q := V_callSN hM dX7_wheel_2 ⟨km_X7_67, kt_X6_howMany⟩ cw_X6_howMany hdd rfl rfl hrm hf kk
theorem cX7_wheel_19 {G : gx} {d mc ms cc zz d2 mc2 ms2 : Nat} {L : List (Option Value)} {S : List Value} {h : ah} {Q Q2 : Option Value → ah → Prop} {k : Nat} {fs : List Value} {a0 a1 : Value} (hM : Ct G mX6_become d2 mc2 ms2 (.ref (k + 2) :: [a0, a1]) h Q2) (hc : h (k + 2) = (6, .inl fs)) (hdd : d2 < d ∧ d ≤ 9) (hrm : (S.map fun v => v.category).sum ≤ 8) (hf : cc + mc2 ≤ mc ∧ zz + ms2 ≤ ms) (kk : ∀ r h2, Q2 r h2 → V G mX7_wheel (d, mc, ms, cc + mc2, zz + ms2) 22 L (r.toList ++ S) h2 Q) : V G mX7_wheel (d, mc, ms, cc, zz) 19 L (a1 :: a0 :: .ref (k + 2) :: S) h Q := V_callVN (ci := 6) (T := TX6) (N := 5) hM dX7_wheel_19 ⟨km_X7_71, ki_X6_become, ks_X6_become⟩ cw_X6_become rfl hc (by decide) hdd rfl rfl hrm hf kk
theorem cX7_wheel_26 {G : gx} {d mc ms cc zz d2 mc2 ms2 : Nat} {L : List (Option Value)} {S : List Value} {h : ah} {Q Q2 : Option Value → ah → Prop} {k : Nat} {fs : List Value} (hM : Ct G mX2_becomeTurning d2 mc2 ms2 (.ref (k + 2) :: []) h Q2) (hc : h (k + 2) = (2, .inl fs)) (hdd : d2 < d ∧ d ≤ 9) (hrm : (S.map fun v => v.category).sum ≤ 8) (hf : cc + mc2 ≤ mc ∧ zz + ms2 ≤ ms) (kk : ∀ r h2, Q2 r h2 → V G mX7_wheel (d, mc, ms, cc + mc2, zz + ms2) 29 L (r.toList ++ S) h2 Q) : V G mX7_wheel (d, mc, ms, cc, zz) 26 L (.ref (k + 2) :: S) h Q := V_callVN (ci := 2) (T := TX2) (N := 14) hM dX7_wheel_26 ⟨km_X7_75, ki_X2_becomeTurning, ks_X2_becomeTurning⟩ cw_X2_becomeTurning rfl hc (by decide) hdd rfl rfl hrm hf kk
theorem cX7_wheel_33 {G : gx} {d mc ms cc zz d2 mc2 ms2 : Nat} {L : List (Option Value)} {S : List Value} {h : ah} {Q Q2 : Option Value → ah → Prop} {k : Nat} {fs : List Value} (hM : Ct G mX4_drop d2 mc2 ms2 (.ref (k + 2) :: []) h Q2) (hc : h (k + 2) = (4, .inl fs)) (hdd : d2 < d ∧ d ≤ 9) (hrm : (S.map fun v => v.category).sum ≤ 8) (hf : cc + mc2 ≤ mc ∧ zz + ms2 ≤ ms) (kk : ∀ r h2, Q2 r h2 → V G mX7_wheel (d, mc, ms, cc + mc2, zz + ms2) 36 L (r.toList ++ S) h2 Q) : V G mX7_wheel (d, mc, ms, cc, zz) 33 L (.ref (k + 2) :: S) h Q := V_callVN (ci := 4) (T := TX4) (N := 8) hM dX7_wheel_33 ⟨km_X7_78, ki_X4_drop, ks_X4_drop⟩ cw_X4_drop rfl hc (by decide) hdd rfl rfl hrm hf kk
theorem tX7_turn_0 {G : gx} {b : bg} {h : ah} {Q : Option Value → ah → Prop} {x1 : Int32} {x2 : Int32} {ufirstFound : Int32} {ulatestFinding : Int32} (g2 : h 2 = (7, .inl [.ref 3, .ref 5, .ref 9, .ref 17, .ref 23, .ref 36, .ref 38, .int ufirstFound, .int ulatestFinding])) (q1 : V G mX7_turn b 5 [some (.ref 2), some (.int x1), some (.int x2)] [.int x1, .ref 3] h Q) : V G mX7_turn b 0 [some (.ref 2), some (.int x1), some (.int x2)] [] h Q := by
  refine V_aload_n dX7_turn_0 rfl rfl ?_
  refine V_get (ci := 7) (j := 0) (C0 := RX7) (T := TX7) (N := 9) dX7_turn_1 rfl g2 (by decide) (by decide) kf_X7_10 rfl ?_
  refine V_iload_n dX7_turn_4 rfl rfl ?_
  exact V_sub (by exact (And.intro rfl (And.intro rfl (And.intro rfl True.intro)))) (q1)
theorem tX7_turn_8 {G : gx} {b : bg} {h : ah} {Q : Option Value → ah → Prop} {x1 : Int32} {x2 : Int32} {s0 : Int32} {ufirstFound : Int32} {ulatestFinding : Int32} (g2 : h 2 = (7, .inl [.ref 3, .ref 5, .ref 9, .ref 17, .ref 23, .ref 36, .ref 38, .int ufirstFound, .int ulatestFinding])) (q1 : (s0 = (0 : Int32)) → Q (some (.int (-2 : Int32))) h) (q2 : (¬ s0 = (0 : Int32)) → (x2 < (0 : Int32)) → Q (some (.int (-2 : Int32))) h) (q3 : (¬ s0 = (0 : Int32)) → (¬ x2 < (0 : Int32)) → (x2 ≤ (1000 : Int32)) → V G mX7_turn b 31 [some (.ref 2), some (.int x1), some (.int x2)] [.int x2, .int x1, .ref 3] h Q) (q4 : (¬ s0 = (0 : Int32)) → (¬ x2 < (0 : Int32)) → (¬ x2 ≤ (1000 : Int32)) → Q (some (.int (-2 : Int32))) h) : V G mX7_turn b 8 [some (.ref 2), some (.int x1), some (.int x2)] [.int s0] h Q := by
  refine V_if_eq (t := 22) dX7_turn_8 (by decide) (fun z1 => ?_) (fun z1 => ?_)
  ·
    refine V_bipush dX7_turn_22 bp_m2 ?_
    exact V_iret dX7_turn_24 rfl (q1 z1)
  ·
    refine V_iload_n dX7_turn_11 rfl rfl ?_
    refine V_if_lt (t := 22) dX7_turn_12 (by decide) (fun z2 => ?_) (fun z2 => ?_)
    ·
      refine V_bipush dX7_turn_22 bp_m2 ?_
      exact V_iret dX7_turn_24 rfl (q2 z1 z2)
    ·
      refine V_iload_n dX7_turn_15 rfl rfl ?_
      refine V_sipush dX7_turn_16 sp_1000 ?_
      refine V_icmp_le (t := 25) dX7_turn_19 (by decide) (fun z3 => ?_) (fun z3 => ?_)
      ·
        refine V_aload_n dX7_turn_25 rfl rfl ?_
        refine V_get (ci := 7) (j := 0) (C0 := RX7) (T := TX7) (N := 9) dX7_turn_26 rfl g2 (by decide) (by decide) kf_X7_10 rfl ?_
        refine V_iload_n dX7_turn_29 rfl rfl ?_
        refine V_iload_n dX7_turn_30 rfl rfl ?_
        exact V_sub (by exact (And.intro rfl (And.intro rfl (And.intro rfl True.intro)))) (q3 z1 z2 z3)
      ·
        refine V_bipush dX7_turn_22 bp_m2 ?_
        exact V_iret dX7_turn_24 rfl (q4 z1 z2 z3)
theorem tX7_turn_34 {G : gx} {b : bg} {h : ah} {Q : Option Value → ah → Prop} {x1 : Int32} {x2 : Int32} {s0 : Int32} (q1 : Q (some (.int s0)) h) : V G mX7_turn b 34 [some (.ref 2), some (.int x1), some (.int x2)] [.int s0] h Q := by
  exact V_iret dX7_turn_34 rfl (q1)
theorem cX7_turn_5 {G : gx} {d mc ms cc zz d2 mc2 ms2 : Nat} {L : List (Option Value)} {S : List Value} {h : ah} {Q Q2 : Option Value → ah → Prop} {k : Nat} {fs : List Value} {a0 : Value} (hM : Ct G mX6_has d2 mc2 ms2 (.ref (k + 2) :: [a0]) h Q2) (hc : h (k + 2) = (6, .inl fs)) (hdd : d2 < d ∧ d ≤ 9) (hrm : (S.map fun v => v.category).sum ≤ 8) (hf : cc + mc2 ≤ mc ∧ zz + ms2 ≤ ms) (kk : ∀ r h2, Q2 r h2 → V G mX7_turn (d, mc, ms, cc + mc2, zz + ms2) 8 L (r.toList ++ S) h2 Q) : V G mX7_turn (d, mc, ms, cc, zz) 5 L (a0 :: .ref (k + 2) :: S) h Q := V_callVN (ci := 6) (T := TX6) (N := 5) hM dX7_turn_5 ⟨km_X7_81, ki_X6_has, ks_X6_has⟩ cw_X6_has rfl hc (by decide) hdd rfl rfl hrm hf kk
theorem cX7_turn_31 {G : gx} {d mc ms cc zz d2 mc2 ms2 : Nat} {L : List (Option Value)} {S : List Value} {h : ah} {Q Q2 : Option Value → ah → Prop} {k : Nat} {fs : List Value} {a0 a1 : Value} (hM : Ct G mX6_turned d2 mc2 ms2 (.ref (k + 2) :: [a0, a1]) h Q2) (hc : h (k + 2) = (6, .inl fs)) (hdd : d2 < d ∧ d ≤ 9) (hrm : (S.map fun v => v.category).sum ≤ 8) (hf : cc + mc2 ≤ mc ∧ zz + ms2 ≤ ms) (kk : ∀ r h2, Q2 r h2 → V G mX7_turn (d, mc, ms, cc + mc2, zz + ms2) 34 L (r.toList ++ S) h2 Q) : V G mX7_turn (d, mc, ms, cc, zz) 31 L (a1 :: a0 :: .ref (k + 2) :: S) h Q := V_callVN (ci := 6) (T := TX6) (N := 5) hM dX7_turn_31 ⟨km_X7_85, ki_X6_turned, ks_X6_turned⟩ cw_X6_turned rfl hc (by decide) hdd rfl rfl hrm hf kk
theorem tX7_least_0 {G : gx} {b : bg} {h : ah} {Q : Option Value → ah → Prop} {x1 : Int32} {ufirstFound : Int32} {ulatestFinding : Int32} (g2 : h 2 = (7, .inl [.ref 3, .ref 5, .ref 9, .ref 17, .ref 23, .ref 36, .ref 38, .int ufirstFound, .int ulatestFinding])) (q1 : V G mX7_least b 5 [some (.ref 2), some (.int x1)] [.int x1, .ref 3] h Q) : V G mX7_least b 0 [some (.ref 2), some (.int x1)] [] h Q := by
  refine V_aload_n dX7_least_0 rfl rfl ?_
  refine V_get (ci := 7) (j := 0) (C0 := RX7) (T := TX7) (N := 9) dX7_least_1 rfl g2 (by decide) (by decide) kf_X7_10 rfl ?_
  refine V_iload_n dX7_least_4 rfl rfl ?_
  exact V_sub (by exact (And.intro rfl (And.intro rfl True.intro))) (q1)
theorem tX7_least_8 {G : gx} {b : bg} {h : ah} {Q : Option Value → ah → Prop} {x1 : Int32} {s0 : Int32} {ufirstFound : Int32} {ulatestFinding : Int32} (g2 : h 2 = (7, .inl [.ref 3, .ref 5, .ref 9, .ref 17, .ref 23, .ref 36, .ref 38, .int ufirstFound, .int ulatestFinding])) (q1 : (s0 = (0 : Int32)) → Q (some (.int (-2 : Int32))) h) (q2 : (¬ s0 = (0 : Int32)) → V G mX7_least b 16 [some (.ref 2), some (.int x1)] [.int x1, .ref 3] h Q) : V G mX7_least b 8 [some (.ref 2), some (.int x1)] [.int s0] h Q := by
  refine V_if_eq (t := 22) dX7_least_8 (by decide) (fun z1 => ?_) (fun z1 => ?_)
  ·
    refine V_bipush dX7_least_22 bp_m2 ?_
    exact V_iret dX7_least_24 rfl (q1 z1)
  ·
    refine V_aload_n dX7_least_11 rfl rfl ?_
    refine V_get (ci := 7) (j := 0) (C0 := RX7) (T := TX7) (N := 9) dX7_least_12 rfl g2 (by decide) (by decide) kf_X7_10 rfl ?_
    refine V_iload_n dX7_least_15 rfl rfl ?_
    exact V_sub (by exact (And.intro rfl (And.intro rfl True.intro))) (q2 z1)
theorem tX7_least_19 {G : gx} {b : bg} {h : ah} {Q : Option Value → ah → Prop} {x1 : Int32} {s0 : Int32} (q1 : Q (some (.int s0)) h) : V G mX7_least b 19 [some (.ref 2), some (.int x1)] [.int s0] h Q := by
  refine V_goto (t := 24) dX7_least_19 (by decide) ?_
  exact V_iret dX7_least_24 rfl (q1)
theorem cX7_least_5 {G : gx} {d mc ms cc zz d2 mc2 ms2 : Nat} {L : List (Option Value)} {S : List Value} {h : ah} {Q Q2 : Option Value → ah → Prop} {k : Nat} {fs : List Value} {a0 : Value} (hM : Ct G mX6_has d2 mc2 ms2 (.ref (k + 2) :: [a0]) h Q2) (hc : h (k + 2) = (6, .inl fs)) (hdd : d2 < d ∧ d ≤ 9) (hrm : (S.map fun v => v.category).sum ≤ 8) (hf : cc + mc2 ≤ mc ∧ zz + ms2 ≤ ms) (kk : ∀ r h2, Q2 r h2 → V G mX7_least (d, mc, ms, cc + mc2, zz + ms2) 8 L (r.toList ++ S) h2 Q) : V G mX7_least (d, mc, ms, cc, zz) 5 L (a0 :: .ref (k + 2) :: S) h Q := V_callVN (ci := 6) (T := TX6) (N := 5) hM dX7_least_5 ⟨km_X7_81, ki_X6_has, ks_X6_has⟩ cw_X6_has rfl hc (by decide) hdd rfl rfl hrm hf kk
theorem cX7_least_16 {G : gx} {d mc ms cc zz d2 mc2 ms2 : Nat} {L : List (Option Value)} {S : List Value} {h : ah} {Q Q2 : Option Value → ah → Prop} {k : Nat} {fs : List Value} {a0 : Value} (hM : Ct G mX6_leastOf d2 mc2 ms2 (.ref (k + 2) :: [a0]) h Q2) (hc : h (k + 2) = (6, .inl fs)) (hdd : d2 < d ∧ d ≤ 9) (hrm : (S.map fun v => v.category).sum ≤ 8) (hf : cc + mc2 ≤ mc ∧ zz + ms2 ≤ ms) (kk : ∀ r h2, Q2 r h2 → V G mX7_least (d, mc, ms, cc + mc2, zz + ms2) 19 L (r.toList ++ S) h2 Q) : V G mX7_least (d, mc, ms, cc, zz) 16 L (a0 :: .ref (k + 2) :: S) h Q := V_callVN (ci := 6) (T := TX6) (N := 5) hM dX7_least_16 ⟨km_X7_88, ki_X6_leastOf, ks_X6_leastOf⟩ cw_X6_leastOf rfl hc (by decide) hdd rfl rfl hrm hf kk
theorem tX7_steps_0 {G : gx} {b : bg} {h : ah} {Q : Option Value → ah → Prop} {x1 : Int32} {ufirstFound : Int32} {ulatestFinding : Int32} (g2 : h 2 = (7, .inl [.ref 3, .ref 5, .ref 9, .ref 17, .ref 23, .ref 36, .ref 38, .int ufirstFound, .int ulatestFinding])) (q1 : V G mX7_steps b 5 [some (.ref 2), some (.int x1)] [.int x1, .ref 3] h Q) : V G mX7_steps b 0 [some (.ref 2), some (.int x1)] [] h Q := by
  refine V_aload_n dX7_steps_0 rfl rfl ?_
  refine V_get (ci := 7) (j := 0) (C0 := RX7) (T := TX7) (N := 9) dX7_steps_1 rfl g2 (by decide) (by decide) kf_X7_10 rfl ?_
  refine V_iload_n dX7_steps_4 rfl rfl ?_
  exact V_sub (by exact (And.intro rfl (And.intro rfl True.intro))) (q1)
theorem tX7_steps_8 {G : gx} {b : bg} {h : ah} {Q : Option Value → ah → Prop} {x1 : Int32} {s0 : Int32} {ufirstFound : Int32} {ulatestFinding : Int32} (g2 : h 2 = (7, .inl [.ref 3, .ref 5, .ref 9, .ref 17, .ref 23, .ref 36, .ref 38, .int ufirstFound, .int ulatestFinding])) (q1 : (s0 = (0 : Int32)) → Q (some (.int (-2 : Int32))) h) (q2 : (¬ s0 = (0 : Int32)) → V G mX7_steps b 16 [some (.ref 2), some (.int x1)] [.int x1, .ref 3] h Q) : V G mX7_steps b 8 [some (.ref 2), some (.int x1)] [.int s0] h Q := by
  refine V_if_eq (t := 22) dX7_steps_8 (by decide) (fun z1 => ?_) (fun z1 => ?_)
  ·
    refine V_bipush dX7_steps_22 bp_m2 ?_
    exact V_iret dX7_steps_24 rfl (q1 z1)
  ·
    refine V_aload_n dX7_steps_11 rfl rfl ?_
    refine V_get (ci := 7) (j := 0) (C0 := RX7) (T := TX7) (N := 9) dX7_steps_12 rfl g2 (by decide) (by decide) kf_X7_10 rfl ?_
    refine V_iload_n dX7_steps_15 rfl rfl ?_
    exact V_sub (by exact (And.intro rfl (And.intro rfl True.intro))) (q2 z1)
theorem tX7_steps_19 {G : gx} {b : bg} {h : ah} {Q : Option Value → ah → Prop} {x1 : Int32} {s0 : Int32} (q1 : Q (some (.int s0)) h) : V G mX7_steps b 19 [some (.ref 2), some (.int x1)] [.int s0] h Q := by
  refine V_goto (t := 24) dX7_steps_19 (by decide) ?_
  exact V_iret dX7_steps_24 rfl (q1)
theorem cX7_steps_5 {G : gx} {d mc ms cc zz d2 mc2 ms2 : Nat} {L : List (Option Value)} {S : List Value} {h : ah} {Q Q2 : Option Value → ah → Prop} {k : Nat} {fs : List Value} {a0 : Value} (hM : Ct G mX6_has d2 mc2 ms2 (.ref (k + 2) :: [a0]) h Q2) (hc : h (k + 2) = (6, .inl fs)) (hdd : d2 < d ∧ d ≤ 9) (hrm : (S.map fun v => v.category).sum ≤ 8) (hf : cc + mc2 ≤ mc ∧ zz + ms2 ≤ ms) (kk : ∀ r h2, Q2 r h2 → V G mX7_steps (d, mc, ms, cc + mc2, zz + ms2) 8 L (r.toList ++ S) h2 Q) : V G mX7_steps (d, mc, ms, cc, zz) 5 L (a0 :: .ref (k + 2) :: S) h Q := V_callVN (ci := 6) (T := TX6) (N := 5) hM dX7_steps_5 ⟨km_X7_81, ki_X6_has, ks_X6_has⟩ cw_X6_has rfl hc (by decide) hdd rfl rfl hrm hf kk
theorem cX7_steps_16 {G : gx} {d mc ms cc zz d2 mc2 ms2 : Nat} {L : List (Option Value)} {S : List Value} {h : ah} {Q Q2 : Option Value → ah → Prop} {k : Nat} {fs : List Value} {a0 : Value} (hM : Ct G mX6_stepsToLeast d2 mc2 ms2 (.ref (k + 2) :: [a0]) h Q2) (hc : h (k + 2) = (6, .inl fs)) (hdd : d2 < d ∧ d ≤ 9) (hrm : (S.map fun v => v.category).sum ≤ 8) (hf : cc + mc2 ≤ mc ∧ zz + ms2 ≤ ms) (kk : ∀ r h2, Q2 r h2 → V G mX7_steps (d, mc, ms, cc + mc2, zz + ms2) 19 L (r.toList ++ S) h2 Q) : V G mX7_steps (d, mc, ms, cc, zz) 16 L (a0 :: .ref (k + 2) :: S) h Q := V_callVN (ci := 6) (T := TX6) (N := 5) hM dX7_steps_16 ⟨km_X7_92, ki_X6_stepsToLeast, ks_X6_stepsToLeast⟩ cw_X6_stepsToLeast rfl hc (by decide) hdd rfl rfl hrm hf kk
theorem tX7_size_0 {G : gx} {b : bg} {h : ah} {Q : Option Value → ah → Prop} {x1 : Int32} {ufirstFound : Int32} {ulatestFinding : Int32} (g2 : h 2 = (7, .inl [.ref 3, .ref 5, .ref 9, .ref 17, .ref 23, .ref 36, .ref 38, .int ufirstFound, .int ulatestFinding])) (q1 : V G mX7_size b 5 [some (.ref 2), some (.int x1)] [.int x1, .ref 3] h Q) : V G mX7_size b 0 [some (.ref 2), some (.int x1)] [] h Q := by
  refine V_aload_n dX7_size_0 rfl rfl ?_
  refine V_get (ci := 7) (j := 0) (C0 := RX7) (T := TX7) (N := 9) dX7_size_1 rfl g2 (by decide) (by decide) kf_X7_10 rfl ?_
  refine V_iload_n dX7_size_4 rfl rfl ?_
  exact V_sub (by exact (And.intro rfl (And.intro rfl True.intro))) (q1)
theorem tX7_size_8 {G : gx} {b : bg} {h : ah} {Q : Option Value → ah → Prop} {x1 : Int32} {s0 : Int32} {ufirstFound : Int32} {ulatestFinding : Int32} (g2 : h 2 = (7, .inl [.ref 3, .ref 5, .ref 9, .ref 17, .ref 23, .ref 36, .ref 38, .int ufirstFound, .int ulatestFinding])) (q1 : (s0 = (0 : Int32)) → Q (some (.int (-2 : Int32))) h) (q2 : (¬ s0 = (0 : Int32)) → V G mX7_size b 16 [some (.ref 2), some (.int x1)] [.int x1, .ref 3] h Q) : V G mX7_size b 8 [some (.ref 2), some (.int x1)] [.int s0] h Q := by
  refine V_if_eq (t := 22) dX7_size_8 (by decide) (fun z1 => ?_) (fun z1 => ?_)
  ·
    refine V_bipush dX7_size_22 bp_m2 ?_
    exact V_iret dX7_size_24 rfl (q1 z1)
  ·
    refine V_aload_n dX7_size_11 rfl rfl ?_
    refine V_get (ci := 7) (j := 0) (C0 := RX7) (T := TX7) (N := 9) dX7_size_12 rfl g2 (by decide) (by decide) kf_X7_10 rfl ?_
    refine V_iload_n dX7_size_15 rfl rfl ?_
    exact V_sub (by exact (And.intro rfl (And.intro rfl True.intro))) (q2 z1)
theorem tX7_size_19 {G : gx} {b : bg} {h : ah} {Q : Option Value → ah → Prop} {x1 : Int32} {s0 : Int32} (q1 : Q (some (.int s0)) h) : V G mX7_size b 19 [some (.ref 2), some (.int x1)] [.int s0] h Q := by
  refine V_goto (t := 24) dX7_size_19 (by decide) ?_
  exact V_iret dX7_size_24 rfl (q1)
theorem cX7_size_5 {G : gx} {d mc ms cc zz d2 mc2 ms2 : Nat} {L : List (Option Value)} {S : List Value} {h : ah} {Q Q2 : Option Value → ah → Prop} {k : Nat} {fs : List Value} {a0 : Value} (hM : Ct G mX6_has d2 mc2 ms2 (.ref (k + 2) :: [a0]) h Q2) (hc : h (k + 2) = (6, .inl fs)) (hdd : d2 < d ∧ d ≤ 9) (hrm : (S.map fun v => v.category).sum ≤ 8) (hf : cc + mc2 ≤ mc ∧ zz + ms2 ≤ ms) (kk : ∀ r h2, Q2 r h2 → V G mX7_size (d, mc, ms, cc + mc2, zz + ms2) 8 L (r.toList ++ S) h2 Q) : V G mX7_size (d, mc, ms, cc, zz) 5 L (a0 :: .ref (k + 2) :: S) h Q := V_callVN (ci := 6) (T := TX6) (N := 5) hM dX7_size_5 ⟨km_X7_81, ki_X6_has, ks_X6_has⟩ cw_X6_has rfl hc (by decide) hdd rfl rfl hrm hf kk
theorem cX7_size_16 {G : gx} {d mc ms cc zz d2 mc2 ms2 : Nat} {L : List (Option Value)} {S : List Value} {h : ah} {Q Q2 : Option Value → ah → Prop} {k : Nat} {fs : List Value} {a0 : Value} (hM : Ct G mX6_ringSize d2 mc2 ms2 (.ref (k + 2) :: [a0]) h Q2) (hc : h (k + 2) = (6, .inl fs)) (hdd : d2 < d ∧ d ≤ 9) (hrm : (S.map fun v => v.category).sum ≤ 8) (hf : cc + mc2 ≤ mc ∧ zz + ms2 ≤ ms) (kk : ∀ r h2, Q2 r h2 → V G mX7_size (d, mc, ms, cc + mc2, zz + ms2) 19 L (r.toList ++ S) h2 Q) : V G mX7_size (d, mc, ms, cc, zz) 16 L (a0 :: .ref (k + 2) :: S) h Q := V_callVN (ci := 6) (T := TX6) (N := 5) hM dX7_size_16 ⟨km_X7_95, ki_X6_ringSize, ks_X6_ringSize⟩ cw_X6_ringSize rfl hc (by decide) hdd rfl rfl hrm hf kk
theorem tX7_even_0 {G : gx} {b : bg} {h : ah} {Q : Option Value → ah → Prop} {x1 : Int32} {ufirstFound : Int32} {ulatestFinding : Int32} (g2 : h 2 = (7, .inl [.ref 3, .ref 5, .ref 9, .ref 17, .ref 23, .ref 36, .ref 38, .int ufirstFound, .int ulatestFinding])) (q1 : V G mX7_even b 5 [some (.ref 2), some (.int x1)] [.int x1, .ref 3] h Q) : V G mX7_even b 0 [some (.ref 2), some (.int x1)] [] h Q := by
  refine V_aload_n dX7_even_0 rfl rfl ?_
  refine V_get (ci := 7) (j := 0) (C0 := RX7) (T := TX7) (N := 9) dX7_even_1 rfl g2 (by decide) (by decide) kf_X7_10 rfl ?_
  refine V_iload_n dX7_even_4 rfl rfl ?_
  exact V_sub (by exact (And.intro rfl (And.intro rfl True.intro))) (q1)
theorem tX7_even_8 {G : gx} {b : bg} {h : ah} {Q : Option Value → ah → Prop} {x1 : Int32} {s0 : Int32} {ufirstFound : Int32} {ulatestFinding : Int32} (g2 : h 2 = (7, .inl [.ref 3, .ref 5, .ref 9, .ref 17, .ref 23, .ref 36, .ref 38, .int ufirstFound, .int ulatestFinding])) (q1 : (¬ s0 = (0 : Int32)) → V G mX7_even b 19 [some (.ref 2), some (.int x1)] [.int x1, .ref 3] h Q) (q2 : (s0 = (0 : Int32)) → Q (some (.int (-2 : Int32))) h) : V G mX7_even b 8 [some (.ref 2), some (.int x1)] [.int s0] h Q := by
  refine V_if_ne (t := 14) dX7_even_8 (by decide) (fun z1 => ?_) (fun z1 => ?_)
  ·
    refine V_aload_n dX7_even_14 rfl rfl ?_
    refine V_get (ci := 7) (j := 0) (C0 := RX7) (T := TX7) (N := 9) dX7_even_15 rfl g2 (by decide) (by decide) kf_X7_10 rfl ?_
    refine V_iload_n dX7_even_18 rfl rfl ?_
    exact V_sub (by exact (And.intro rfl (And.intro rfl True.intro))) (q1 z1)
  ·
    refine V_bipush dX7_even_11 bp_m2 ?_
    exact V_iret dX7_even_13 rfl (q2 z1)
theorem tX7_even_22 {G : gx} {b : bg} {h : ah} {Q : Option Value → ah → Prop} {x1 : Int32} {s0 : Int32} {ufirstFound : Int32} {ulatestFinding : Int32} (g2 : h 2 = (7, .inl [.ref 3, .ref 5, .ref 9, .ref 17, .ref 23, .ref 36, .ref 38, .int ufirstFound, .int ulatestFinding])) (q1 : V G mX7_even b 32 [some (.ref 2), some (.int x1), some (.int s0)] [.int s0, .ref 3, .ref 3] h Q) : V G mX7_even b 22 [some (.ref 2), some (.int x1)] [.int s0] h Q := by
  refine V_istore_n dX7_even_22 rfl (Nat.le_of_ble_eq_true rfl) ?_
  refine V_aload_n dX7_even_23 rfl rfl ?_
  refine V_get (ci := 7) (j := 0) (C0 := RX7) (T := TX7) (N := 9) dX7_even_24 rfl g2 (by decide) (by decide) kf_X7_10 rfl ?_
  refine V_aload_n dX7_even_27 rfl rfl ?_
  refine V_get (ci := 7) (j := 0) (C0 := RX7) (T := TX7) (N := 9) dX7_even_28 rfl g2 (by decide) (by decide) kf_X7_10 rfl ?_
  refine V_iload_n dX7_even_31 rfl rfl ?_
  exact V_sub (by exact (And.intro rfl (And.intro rfl (And.intro rfl True.intro)))) (q1)
theorem tX7_even_38 {G : gx} {b : bg} {h : ah} {Q : Option Value → ah → Prop} {x1 : Int32} {x2 : Int32} {s0 : Int32} (q1 : (¬ s0 = x2) → Q (some (.int (0 : Int32))) h) (q2 : (s0 = x2) → Q (some (.int (1 : Int32))) h) : V G mX7_even b 38 [some (.ref 2), some (.int x1), some (.int x2)] [.int s0] h Q := by
  refine V_iload_n dX7_even_38 rfl rfl ?_
  refine V_icmp_ne (t := 46) dX7_even_39 (by decide) (fun z1 => ?_) (fun z1 => ?_)
  ·
    refine V_iconst dX7_even_46 ic_0 ?_
    exact V_iret dX7_even_47 rfl (q1 z1)
  ·
    refine V_iconst dX7_even_42 ic_1 ?_
    refine V_goto (t := 47) dX7_even_43 (by decide) ?_
    exact V_iret dX7_even_47 rfl (q2 z1)
theorem cX7_even_5 {G : gx} {d mc ms cc zz d2 mc2 ms2 : Nat} {L : List (Option Value)} {S : List Value} {h : ah} {Q Q2 : Option Value → ah → Prop} {k : Nat} {fs : List Value} {a0 : Value} (hM : Ct G mX6_has d2 mc2 ms2 (.ref (k + 2) :: [a0]) h Q2) (hc : h (k + 2) = (6, .inl fs)) (hdd : d2 < d ∧ d ≤ 9) (hrm : (S.map fun v => v.category).sum ≤ 8) (hf : cc + mc2 ≤ mc ∧ zz + ms2 ≤ ms) (kk : ∀ r h2, Q2 r h2 → V G mX7_even (d, mc, ms, cc + mc2, zz + ms2) 8 L (r.toList ++ S) h2 Q) : V G mX7_even (d, mc, ms, cc, zz) 5 L (a0 :: .ref (k + 2) :: S) h Q := V_callVN (ci := 6) (T := TX6) (N := 5) hM dX7_even_5 ⟨km_X7_81, ki_X6_has, ks_X6_has⟩ cw_X6_has rfl hc (by decide) hdd rfl rfl hrm hf kk
theorem cX7_even_19 {G : gx} {d mc ms cc zz d2 mc2 ms2 : Nat} {L : List (Option Value)} {S : List Value} {h : ah} {Q Q2 : Option Value → ah → Prop} {k : Nat} {fs : List Value} {a0 : Value} (hM : Ct G mX6_leastOf d2 mc2 ms2 (.ref (k + 2) :: [a0]) h Q2) (hc : h (k + 2) = (6, .inl fs)) (hdd : d2 < d ∧ d ≤ 9) (hrm : (S.map fun v => v.category).sum ≤ 8) (hf : cc + mc2 ≤ mc ∧ zz + ms2 ≤ ms) (kk : ∀ r h2, Q2 r h2 → V G mX7_even (d, mc, ms, cc + mc2, zz + ms2) 22 L (r.toList ++ S) h2 Q) : V G mX7_even (d, mc, ms, cc, zz) 19 L (a0 :: .ref (k + 2) :: S) h Q := V_callVN (ci := 6) (T := TX6) (N := 5) hM dX7_even_19 ⟨km_X7_88, ki_X6_leastOf, ks_X6_leastOf⟩ cw_X6_leastOf rfl hc (by decide) hdd rfl rfl hrm hf kk
theorem cX7_even_32 {G : gx} {d mc ms cc zz d2 mc2 ms2 : Nat} {L : List (Option Value)} {S : List Value} {h : ah} {Q Q2 : Option Value → ah → Prop} {k : Nat} {fs : List Value} {a0 : Value} (hM : Ct G mX6_backward d2 mc2 ms2 (.ref (k + 2) :: [a0]) h Q2) (hc : h (k + 2) = (6, .inl fs)) (hdd : d2 < d ∧ d ≤ 9) (hrm : (S.map fun v => v.category).sum ≤ 8) (hf : cc + mc2 ≤ mc ∧ zz + ms2 ≤ ms) (kk : ∀ r h2, Q2 r h2 → V G mX7_even (d, mc, ms, cc + mc2, zz + ms2) 35 L (r.toList ++ S) h2 Q) : V G mX7_even (d, mc, ms, cc, zz) 32 L (a0 :: .ref (k + 2) :: S) h Q := V_callVN (ci := 6) (T := TX6) (N := 5) hM dX7_even_32 ⟨km_X7_98, ki_X6_backward, ks_X6_backward⟩ cw_X6_backward rfl hc (by decide) hdd rfl rfl hrm hf kk
theorem cX7_even_35 {G : gx} {d mc ms cc zz d2 mc2 ms2 : Nat} {L : List (Option Value)} {S : List Value} {h : ah} {Q Q2 : Option Value → ah → Prop} {k : Nat} {fs : List Value} {a0 : Value} (hM : Ct G mX6_leastOf d2 mc2 ms2 (.ref (k + 2) :: [a0]) h Q2) (hc : h (k + 2) = (6, .inl fs)) (hdd : d2 < d ∧ d ≤ 9) (hrm : (S.map fun v => v.category).sum ≤ 8) (hf : cc + mc2 ≤ mc ∧ zz + ms2 ≤ ms) (kk : ∀ r h2, Q2 r h2 → V G mX7_even (d, mc, ms, cc + mc2, zz + ms2) 38 L (r.toList ++ S) h2 Q) : V G mX7_even (d, mc, ms, cc, zz) 35 L (a0 :: .ref (k + 2) :: S) h Q := V_callVN (ci := 6) (T := TX6) (N := 5) hM dX7_even_35 ⟨km_X7_88, ki_X6_leastOf, ks_X6_leastOf⟩ cw_X6_leastOf rfl hc (by decide) hdd rfl rfl hrm hf kk
theorem tX7_rings_0 {G : gx} {b : bg} {h : ah} {Q : Option Value → ah → Prop} {ufirstFound : Int32} {ulatestFinding : Int32} {wletters : Int32} {wlength : Int32} {wall : Int32} {whigh : Int32} (g2 : h 2 = (7, .inl [.ref 3, .ref 5, .ref 9, .ref 17, .ref 23, .ref 36, .ref 38, .int ufirstFound, .int ulatestFinding])) (g3 : h 3 = (6, .inl [.ref 4, .int wletters, .int wlength, .int wall, .int whigh])) (q1 : V G mX7_rings b 13 [some (.ref 2)] [.int (wall - (1 : Int32)), .ref 5] h Q) : V G mX7_rings b 0 [some (.ref 2)] [] h Q := by
  refine V_aload_n dX7_rings_0 rfl rfl ?_
  refine V_get (ci := 7) (j := 1) (C0 := RX7) (T := TX7) (N := 9) dX7_rings_1 rfl g2 (by decide) (by decide) kf_X7_21 rfl ?_
  refine V_aload_n dX7_rings_4 rfl rfl ?_
  refine V_get (ci := 7) (j := 0) (C0 := RX7) (T := TX7) (N := 9) dX7_rings_5 rfl g2 (by decide) (by decide) kf_X7_10 rfl ?_
  refine V_getN (ci := 6) (j := 3) (C0 := RX6) (T := TX6) (N := 5) dX7_rings_8 rfl g3 (by decide) (by decide) kf_X7_101 rfl ?_
  refine V_iconst dX7_rings_11 ic_1 ?_
  refine V_isub dX7_rings_12 ?_
  exact V_sub (by exact (And.intro rfl True.intro)) (q1)
theorem tX7_rings_16 {G : gx} {b : bg} {h : ah} {Q : Option Value → ah → Prop} {s0 : Int32} (q1 : Q (some (.int s0)) h) : V G mX7_rings b 16 [some (.ref 2)] [.int s0] h Q := by
  exact V_iret dX7_rings_16 rfl (q1)
theorem cX7_rings_13 {G : gx} {d mc ms cc zz d2 mc2 ms2 : Nat} {L : List (Option Value)} {S : List Value} {h : ah} {Q Q2 : Option Value → ah → Prop} {k : Nat} {fs : List Value} {a0 : Value} (hM : Ct G mX3_ringsUpTo d2 mc2 ms2 (.ref (k + 2) :: [a0]) h Q2) (hc : h (k + 2) = (3, .inl fs)) (hdd : d2 < d ∧ d ≤ 9) (hrm : (S.map fun v => v.category).sum ≤ 8) (hf : cc + mc2 ≤ mc ∧ zz + ms2 ≤ ms) (kk : ∀ r h2, Q2 r h2 → V G mX7_rings (d, mc, ms, cc + mc2, zz + ms2) 16 L (r.toList ++ S) h2 Q) : V G mX7_rings (d, mc, ms, cc, zz) 13 L (a0 :: .ref (k + 2) :: S) h Q := V_callVN (ci := 3) (T := TX3) (N := 4) hM dX7_rings_13 ⟨km_X7_104, ki_X3_ringsUpTo, ks_X3_ringsUpTo⟩ cw_X3_ringsUpTo rfl hc (by decide) hdd rfl rfl hrm hf kk
theorem tX7_ringOf_0 {G : gx} {b : bg} {h : ah} {Q : Option Value → ah → Prop} {x1 : Int32} {ufirstFound : Int32} {ulatestFinding : Int32} (g2 : h 2 = (7, .inl [.ref 3, .ref 5, .ref 9, .ref 17, .ref 23, .ref 36, .ref 38, .int ufirstFound, .int ulatestFinding])) (q1 : V G mX7_ringOf b 5 [some (.ref 2), some (.int x1)] [.int x1, .ref 3] h Q) : V G mX7_ringOf b 0 [some (.ref 2), some (.int x1)] [] h Q := by
  refine V_aload_n dX7_ringOf_0 rfl rfl ?_
  refine V_get (ci := 7) (j := 0) (C0 := RX7) (T := TX7) (N := 9) dX7_ringOf_1 rfl g2 (by decide) (by decide) kf_X7_10 rfl ?_
  refine V_iload_n dX7_ringOf_4 rfl rfl ?_
  exact V_sub (by exact (And.intro rfl (And.intro rfl True.intro))) (q1)
theorem tX7_ringOf_8 {G : gx} {b : bg} {h : ah} {Q : Option Value → ah → Prop} {x1 : Int32} {s0 : Int32} {ufirstFound : Int32} {ulatestFinding : Int32} (g2 : h 2 = (7, .inl [.ref 3, .ref 5, .ref 9, .ref 17, .ref 23, .ref 36, .ref 38, .int ufirstFound, .int ulatestFinding])) (q1 : (s0 = (0 : Int32)) → Q (some (.int (-2 : Int32))) h) (q2 : (¬ s0 = (0 : Int32)) → V G mX7_ringOf b 20 [some (.ref 2), some (.int x1)] [.int x1, .ref 3, .ref 5] h Q) : V G mX7_ringOf b 8 [some (.ref 2), some (.int x1)] [.int s0] h Q := by
  refine V_if_eq (t := 31) dX7_ringOf_8 (by decide) (fun z1 => ?_) (fun z1 => ?_)
  ·
    refine V_bipush dX7_ringOf_31 bp_m2 ?_
    exact V_iret dX7_ringOf_33 rfl (q1 z1)
  ·
    refine V_aload_n dX7_ringOf_11 rfl rfl ?_
    refine V_get (ci := 7) (j := 1) (C0 := RX7) (T := TX7) (N := 9) dX7_ringOf_12 rfl g2 (by decide) (by decide) kf_X7_21 rfl ?_
    refine V_aload_n dX7_ringOf_15 rfl rfl ?_
    refine V_get (ci := 7) (j := 0) (C0 := RX7) (T := TX7) (N := 9) dX7_ringOf_16 rfl g2 (by decide) (by decide) kf_X7_10 rfl ?_
    refine V_iload_n dX7_ringOf_19 rfl rfl ?_
    exact V_sub (by exact (And.intro rfl (And.intro rfl True.intro))) (q2 z1)
theorem tX7_ringOf_23 {G : gx} {b : bg} {h : ah} {Q : Option Value → ah → Prop} {x1 : Int32} {s0 : Int32} (q1 : V G mX7_ringOf b 25 [some (.ref 2), some (.int x1)] [.int (s0 - (1 : Int32)), .ref 5] h Q) : V G mX7_ringOf b 23 [some (.ref 2), some (.int x1)] [.int s0, .ref 5] h Q := by
  refine V_iconst dX7_ringOf_23 ic_1 ?_
  refine V_isub dX7_ringOf_24 ?_
  exact V_sub (by exact (And.intro rfl (And.intro rfl True.intro))) (q1)
theorem tX7_ringOf_28 {G : gx} {b : bg} {h : ah} {Q : Option Value → ah → Prop} {x1 : Int32} {s0 : Int32} (q1 : Q (some (.int s0)) h) : V G mX7_ringOf b 28 [some (.ref 2), some (.int x1)] [.int s0] h Q := by
  refine V_goto (t := 33) dX7_ringOf_28 (by decide) ?_
  exact V_iret dX7_ringOf_33 rfl (q1)
theorem cX7_ringOf_5 {G : gx} {d mc ms cc zz d2 mc2 ms2 : Nat} {L : List (Option Value)} {S : List Value} {h : ah} {Q Q2 : Option Value → ah → Prop} {k : Nat} {fs : List Value} {a0 : Value} (hM : Ct G mX6_has d2 mc2 ms2 (.ref (k + 2) :: [a0]) h Q2) (hc : h (k + 2) = (6, .inl fs)) (hdd : d2 < d ∧ d ≤ 9) (hrm : (S.map fun v => v.category).sum ≤ 8) (hf : cc + mc2 ≤ mc ∧ zz + ms2 ≤ ms) (kk : ∀ r h2, Q2 r h2 → V G mX7_ringOf (d, mc, ms, cc + mc2, zz + ms2) 8 L (r.toList ++ S) h2 Q) : V G mX7_ringOf (d, mc, ms, cc, zz) 5 L (a0 :: .ref (k + 2) :: S) h Q := V_callVN (ci := 6) (T := TX6) (N := 5) hM dX7_ringOf_5 ⟨km_X7_81, ki_X6_has, ks_X6_has⟩ cw_X6_has rfl hc (by decide) hdd rfl rfl hrm hf kk
theorem cX7_ringOf_20 {G : gx} {d mc ms cc zz d2 mc2 ms2 : Nat} {L : List (Option Value)} {S : List Value} {h : ah} {Q Q2 : Option Value → ah → Prop} {k : Nat} {fs : List Value} {a0 : Value} (hM : Ct G mX6_leastOf d2 mc2 ms2 (.ref (k + 2) :: [a0]) h Q2) (hc : h (k + 2) = (6, .inl fs)) (hdd : d2 < d ∧ d ≤ 9) (hrm : (S.map fun v => v.category).sum ≤ 8) (hf : cc + mc2 ≤ mc ∧ zz + ms2 ≤ ms) (kk : ∀ r h2, Q2 r h2 → V G mX7_ringOf (d, mc, ms, cc + mc2, zz + ms2) 23 L (r.toList ++ S) h2 Q) : V G mX7_ringOf (d, mc, ms, cc, zz) 20 L (a0 :: .ref (k + 2) :: S) h Q := V_callVN (ci := 6) (T := TX6) (N := 5) hM dX7_ringOf_20 ⟨km_X7_88, ki_X6_leastOf, ks_X6_leastOf⟩ cw_X6_leastOf rfl hc (by decide) hdd rfl rfl hrm hf kk
theorem cX7_ringOf_25 {G : gx} {d mc ms cc zz d2 mc2 ms2 : Nat} {L : List (Option Value)} {S : List Value} {h : ah} {Q Q2 : Option Value → ah → Prop} {k : Nat} {fs : List Value} {a0 : Value} (hM : Ct G mX3_ringsUpTo d2 mc2 ms2 (.ref (k + 2) :: [a0]) h Q2) (hc : h (k + 2) = (3, .inl fs)) (hdd : d2 < d ∧ d ≤ 9) (hrm : (S.map fun v => v.category).sum ≤ 8) (hf : cc + mc2 ≤ mc ∧ zz + ms2 ≤ ms) (kk : ∀ r h2, Q2 r h2 → V G mX7_ringOf (d, mc, ms, cc + mc2, zz + ms2) 28 L (r.toList ++ S) h2 Q) : V G mX7_ringOf (d, mc, ms, cc, zz) 25 L (a0 :: .ref (k + 2) :: S) h Q := V_callVN (ci := 3) (T := TX3) (N := 4) hM dX7_ringOf_25 ⟨km_X7_104, ki_X3_ringsUpTo, ks_X3_ringsUpTo⟩ cw_X3_ringsUpTo rfl hc (by decide) hdd rfl rfl hrm hf kk
theorem tX7_ring_0 {G : gx} {b : bg} {h : ah} {Q : Option Value → ah → Prop} {x1 : Int32} (q1 : (x1 < (0 : Int32)) → Q (some (.int (-2 : Int32))) h) (q2 : (¬ x1 < (0 : Int32)) → V G mX7_ring b 6 [some (.ref 2), some (.int x1)] [.ref 2, .int x1] h Q) : V G mX7_ring b 0 [some (.ref 2), some (.int x1)] [] h Q := by
  refine V_iload_n dX7_ring_0 rfl rfl ?_
  refine V_if_lt (t := 12) dX7_ring_1 (by decide) (fun z1 => ?_) (fun z1 => ?_)
  ·
    refine V_bipush dX7_ring_12 bp_m2 ?_
    refine V_goto (t := 25) dX7_ring_14 (by decide) ?_
    exact V_iret dX7_ring_25 rfl (q1 z1)
  ·
    refine V_iload_n dX7_ring_4 rfl rfl ?_
    refine V_aload_n dX7_ring_5 rfl rfl ?_
    exact V_sub (by exact (And.intro rfl (And.intro rfl True.intro))) (q2 z1)
theorem tX7_ring_9 {G : gx} {b : bg} {h : ah} {Q : Option Value → ah → Prop} {x1 : Int32} {s0 : Int32} {s1 : Int32} {ufirstFound : Int32} {ulatestFinding : Int32} (g2 : h 2 = (7, .inl [.ref 3, .ref 5, .ref 9, .ref 17, .ref 23, .ref 36, .ref 38, .int ufirstFound, .int ulatestFinding])) (q1 : (s1 < s0) → V G mX7_ring b 22 [some (.ref 2), some (.int x1)] [.int x1, .ref 5] h Q) (q2 : (¬ s1 < s0) → Q (some (.int (-2 : Int32))) h) : V G mX7_ring b 9 [some (.ref 2), some (.int x1)] [.int s0, .int s1] h Q := by
  refine V_icmp_lt (t := 17) dX7_ring_9 (by decide) (fun z1 => ?_) (fun z1 => ?_)
  ·
    refine V_aload_n dX7_ring_17 rfl rfl ?_
    refine V_get (ci := 7) (j := 1) (C0 := RX7) (T := TX7) (N := 9) dX7_ring_18 rfl g2 (by decide) (by decide) kf_X7_21 rfl ?_
    refine V_iload_n dX7_ring_21 rfl rfl ?_
    exact V_sub (by exact (And.intro rfl (And.intro rfl True.intro))) (q1 z1)
  ·
    refine V_bipush dX7_ring_12 bp_m2 ?_
    refine V_goto (t := 25) dX7_ring_14 (by decide) ?_
    exact V_iret dX7_ring_25 rfl (q2 z1)
theorem tX7_ring_25 {G : gx} {b : bg} {h : ah} {Q : Option Value → ah → Prop} {x1 : Int32} {s0 : Int32} (q1 : Q (some (.int s0)) h) : V G mX7_ring b 25 [some (.ref 2), some (.int x1)] [.int s0] h Q := by
  exact V_iret dX7_ring_25 rfl (q1)
theorem cX7_ring_6 {G : gx} {d mc ms cc zz d2 mc2 ms2 : Nat} {L : List (Option Value)} {S : List Value} {h : ah} {Q Q2 : Option Value → ah → Prop} {k : Nat} {fs : List Value} (hM : Ct G mX7_rings d2 mc2 ms2 (.ref (k + 2) :: []) h Q2) (hc : h (k + 2) = (7, .inl fs)) (hdd : d2 < d ∧ d ≤ 9) (hrm : (S.map fun v => v.category).sum ≤ 8) (hf : cc + mc2 ≤ mc ∧ zz + ms2 ≤ ms) (kk : ∀ r h2, Q2 r h2 → V G mX7_ring (d, mc, ms, cc + mc2, zz + ms2) 9 L (r.toList ++ S) h2 Q) : V G mX7_ring (d, mc, ms, cc, zz) 6 L (.ref (k + 2) :: S) h Q := V_callV (ci := 7) (T := TX7) (N := 9) hM dX7_ring_6 ⟨km_X7_107, ki_X7_rings, ks_X7_rings⟩ cw_X7_rings rfl hc (by decide) hdd rfl rfl hrm hf kk
theorem cX7_ring_22 {G : gx} {d mc ms cc zz d2 mc2 ms2 : Nat} {L : List (Option Value)} {S : List Value} {h : ah} {Q Q2 : Option Value → ah → Prop} {k : Nat} {fs : List Value} {a0 : Value} (hM : Ct G mX3_leastOfRing d2 mc2 ms2 (.ref (k + 2) :: [a0]) h Q2) (hc : h (k + 2) = (3, .inl fs)) (hdd : d2 < d ∧ d ≤ 9) (hrm : (S.map fun v => v.category).sum ≤ 8) (hf : cc + mc2 ≤ mc ∧ zz + ms2 ≤ ms) (kk : ∀ r h2, Q2 r h2 → V G mX7_ring (d, mc, ms, cc + mc2, zz + ms2) 25 L (r.toList ++ S) h2 Q) : V G mX7_ring (d, mc, ms, cc, zz) 22 L (a0 :: .ref (k + 2) :: S) h Q := V_callVN (ci := 3) (T := TX3) (N := 4) hM dX7_ring_22 ⟨km_X7_111, ki_X3_leastOfRing, ks_X3_leastOfRing⟩ cw_X3_leastOfRing rfl hc (by decide) hdd rfl rfl hrm hf kk
theorem tX7_below_0 {G : gx} {b : bg} {h : ah} {Q : Option Value → ah → Prop} {x1 : Int32} {ufirstFound : Int32} {ulatestFinding : Int32} (g2 : h 2 = (7, .inl [.ref 3, .ref 5, .ref 9, .ref 17, .ref 23, .ref 36, .ref 38, .int ufirstFound, .int ulatestFinding])) (q1 : V G mX7_below b 5 [some (.ref 2), some (.int x1)] [.int x1, .ref 3] h Q) : V G mX7_below b 0 [some (.ref 2), some (.int x1)] [] h Q := by
  refine V_aload_n dX7_below_0 rfl rfl ?_
  refine V_get (ci := 7) (j := 0) (C0 := RX7) (T := TX7) (N := 9) dX7_below_1 rfl g2 (by decide) (by decide) kf_X7_10 rfl ?_
  refine V_iload_n dX7_below_4 rfl rfl ?_
  exact V_sub (by exact (And.intro rfl (And.intro rfl True.intro))) (q1)
theorem tX7_below_8 {G : gx} {b : bg} {h : ah} {Q : Option Value → ah → Prop} {x1 : Int32} {s0 : Int32} {ufirstFound : Int32} {ulatestFinding : Int32} {wletters : Int32} {wlength : Int32} {wall : Int32} {whigh : Int32} (g2 : h 2 = (7, .inl [.ref 3, .ref 5, .ref 9, .ref 17, .ref 23, .ref 36, .ref 38, .int ufirstFound, .int ulatestFinding])) (g3 : h 3 = (6, .inl [.ref 4, .int wletters, .int wlength, .int wall, .int whigh])) (q1 : (s0 = (0 : Int32)) → Q (some (.int (-2 : Int32))) h) (q2 : (¬ s0 = (0 : Int32)) → V G mX7_below b 25 [some (.ref 2), some (.int x1)] [.int (x1 - (1 : Int32)), .int wlength, .ref 5] h Q) : V G mX7_below b 8 [some (.ref 2), some (.int x1)] [.int s0] h Q := by
  refine V_if_eq (t := 31) dX7_below_8 (by decide) (fun z1 => ?_) (fun z1 => ?_)
  ·
    refine V_bipush dX7_below_31 bp_m2 ?_
    exact V_iret dX7_below_33 rfl (q1 z1)
  ·
    refine V_aload_n dX7_below_11 rfl rfl ?_
    refine V_get (ci := 7) (j := 1) (C0 := RX7) (T := TX7) (N := 9) dX7_below_12 rfl g2 (by decide) (by decide) kf_X7_21 rfl ?_
    refine V_aload_n dX7_below_15 rfl rfl ?_
    refine V_get (ci := 7) (j := 0) (C0 := RX7) (T := TX7) (N := 9) dX7_below_16 rfl g2 (by decide) (by decide) kf_X7_10 rfl ?_
    refine V_getN (ci := 6) (j := 2) (C0 := RX6) (T := TX6) (N := 5) dX7_below_19 rfl g3 (by decide) (by decide) kf_X7_114 rfl ?_
    refine V_iload_n dX7_below_22 rfl rfl ?_
    refine V_iconst dX7_below_23 ic_1 ?_
    refine V_isub dX7_below_24 ?_
    exact V_sub (by exact (And.intro rfl (And.intro rfl True.intro))) (q2 z1)
theorem tX7_below_28 {G : gx} {b : bg} {h : ah} {Q : Option Value → ah → Prop} {x1 : Int32} {s0 : Int32} (q1 : Q (some (.int s0)) h) : V G mX7_below b 28 [some (.ref 2), some (.int x1)] [.int s0] h Q := by
  refine V_goto (t := 33) dX7_below_28 (by decide) ?_
  exact V_iret dX7_below_33 rfl (q1)
theorem cX7_below_5 {G : gx} {d mc ms cc zz d2 mc2 ms2 : Nat} {L : List (Option Value)} {S : List Value} {h : ah} {Q Q2 : Option Value → ah → Prop} {k : Nat} {fs : List Value} {a0 : Value} (hM : Ct G mX6_has d2 mc2 ms2 (.ref (k + 2) :: [a0]) h Q2) (hc : h (k + 2) = (6, .inl fs)) (hdd : d2 < d ∧ d ≤ 9) (hrm : (S.map fun v => v.category).sum ≤ 8) (hf : cc + mc2 ≤ mc ∧ zz + ms2 ≤ ms) (kk : ∀ r h2, Q2 r h2 → V G mX7_below (d, mc, ms, cc + mc2, zz + ms2) 8 L (r.toList ++ S) h2 Q) : V G mX7_below (d, mc, ms, cc, zz) 5 L (a0 :: .ref (k + 2) :: S) h Q := V_callVN (ci := 6) (T := TX6) (N := 5) hM dX7_below_5 ⟨km_X7_81, ki_X6_has, ks_X6_has⟩ cw_X6_has rfl hc (by decide) hdd rfl rfl hrm hf kk
theorem cX7_below_25 {G : gx} {d mc ms cc zz d2 mc2 ms2 : Nat} {L : List (Option Value)} {S : List Value} {h : ah} {Q Q2 : Option Value → ah → Prop} {k : Nat} {fs : List Value} {a0 a1 : Value} (hM : Ct G mX3_wordsUpTo d2 mc2 ms2 (.ref (k + 2) :: [a0, a1]) h Q2) (hc : h (k + 2) = (3, .inl fs)) (hdd : d2 < d ∧ d ≤ 9) (hrm : (S.map fun v => v.category).sum ≤ 8) (hf : cc + mc2 ≤ mc ∧ zz + ms2 ≤ ms) (kk : ∀ r h2, Q2 r h2 → V G mX7_below (d, mc, ms, cc + mc2, zz + ms2) 28 L (r.toList ++ S) h2 Q) : V G mX7_below (d, mc, ms, cc, zz) 25 L (a1 :: a0 :: .ref (k + 2) :: S) h Q := V_callVN (ci := 3) (T := TX3) (N := 4) hM dX7_below_25 ⟨km_X7_117, ki_X3_wordsUpTo, ks_X3_wordsUpTo⟩ cw_X3_wordsUpTo rfl hc (by decide) hdd rfl rfl hrm hf kk
theorem tX7_content_0 {G : gx} {b : bg} {h : ah} {Q : Option Value → ah → Prop} {x1 : Int32} {x2 : Int32} {x3 : Int32} {x4 : Int32} {x5 : Int32} {ufirstFound : Int32} {ulatestFinding : Int32} (g2 : h 2 = (7, .inl [.ref 3, .ref 5, .ref 9, .ref 17, .ref 23, .ref 36, .ref 38, .int ufirstFound, .int ulatestFinding])) (q1 : V G mX7_content b 11 [some (.ref 2), some (.int x1), some (.int x2), some (.int x3), some (.int x4), some (.int x5)] [.int x5, .int x4, .int x3, .int x2, .int x1, .ref 5] h Q) : V G mX7_content b 0 [some (.ref 2), some (.int x1), some (.int x2), some (.int x3), some (.int x4), some (.int x5)] [] h Q := by
  refine V_aload_n dX7_content_0 rfl rfl ?_
  refine V_get (ci := 7) (j := 1) (C0 := RX7) (T := TX7) (N := 9) dX7_content_1 rfl g2 (by decide) (by decide) kf_X7_21 rfl ?_
  refine V_iload_n dX7_content_4 rfl rfl ?_
  refine V_iload_n dX7_content_5 rfl rfl ?_
  refine V_iload_n dX7_content_6 rfl rfl ?_
  refine V_iload dX7_content_7 rfl ?_
  refine V_iload dX7_content_9 rfl ?_
  exact V_sub (by exact (And.intro rfl (And.intro rfl (And.intro rfl (And.intro rfl (And.intro rfl (And.intro rfl True.intro))))))) (q1)
theorem tX7_content_14 {G : gx} {b : bg} {h : ah} {Q : Option Value → ah → Prop} {x1 : Int32} {x2 : Int32} {x3 : Int32} {x4 : Int32} {x5 : Int32} {s0 : Int32} {ufirstFound : Int32} {ulatestFinding : Int32} (g2 : h 2 = (7, .inl [.ref 3, .ref 5, .ref 9, .ref 17, .ref 23, .ref 36, .ref 38, .int ufirstFound, .int ulatestFinding])) (q1 : (s0 = (0 : Int32)) → Q (some (.int (-2 : Int32))) h) (q2 : (¬ s0 = (0 : Int32)) → V G mX7_content b 21 [some (.ref 2), some (.int x1), some (.int x2), some (.int x3), some (.int x4), some (.int x5)] [.ref 5] h Q) : V G mX7_content b 14 [some (.ref 2), some (.int x1), some (.int x2), some (.int x3), some (.int x4), some (.int x5)] [.int s0] h Q := by
  refine V_if_eq (t := 27) dX7_content_14 (by decide) (fun z1 => ?_) (fun z1 => ?_)
  ·
    refine V_bipush dX7_content_27 bp_m2 ?_
    exact V_iret dX7_content_29 rfl (q1 z1)
  ·
    refine V_aload_n dX7_content_17 rfl rfl ?_
    refine V_get (ci := 7) (j := 1) (C0 := RX7) (T := TX7) (N := 9) dX7_content_18 rfl g2 (by decide) (by decide) kf_X7_21 rfl ?_
    exact V_sub (by exact (And.intro rfl (And.intro rfl (And.intro rfl (And.intro rfl (And.intro rfl (And.intro rfl True.intro))))))) (q2 z1)
theorem tX7_content_24 {G : gx} {b : bg} {h : ah} {Q : Option Value → ah → Prop} {x1 : Int32} {x2 : Int32} {x3 : Int32} {x4 : Int32} {x5 : Int32} {s0 : Int32} (q1 : Q (some (.int s0)) h) : V G mX7_content b 24 [some (.ref 2), some (.int x1), some (.int x2), some (.int x3), some (.int x4), some (.int x5)] [.int s0] h Q := by
  refine V_goto (t := 29) dX7_content_24 (by decide) ?_
  exact V_iret dX7_content_29 rfl (q1)
theorem cX7_content_11 {G : gx} {d mc ms cc zz d2 mc2 ms2 : Nat} {L : List (Option Value)} {S : List Value} {h : ah} {Q Q2 : Option Value → ah → Prop} {k : Nat} {fs : List Value} {a0 a1 a2 a3 a4 : Value} (hM : Ct G mX3_takeAmounts d2 mc2 ms2 (.ref (k + 2) :: [a0, a1, a2, a3, a4]) h Q2) (hc : h (k + 2) = (3, .inl fs)) (hdd : d2 < d ∧ d ≤ 9) (hrm : (S.map fun v => v.category).sum ≤ 8) (hf : cc + mc2 ≤ mc ∧ zz + ms2 ≤ ms) (kk : ∀ r h2, Q2 r h2 → V G mX7_content (d, mc, ms, cc + mc2, zz + ms2) 14 L (r.toList ++ S) h2 Q) : V G mX7_content (d, mc, ms, cc, zz) 11 L (a4 :: a3 :: a2 :: a1 :: a0 :: .ref (k + 2) :: S) h Q := V_callVN (ci := 3) (T := TX3) (N := 4) hM dX7_content_11 ⟨km_X7_120, ki_X3_takeAmounts, ks_X3_takeAmounts⟩ cw_X3_takeAmounts rfl hc (by decide) hdd rfl rfl hrm hf kk
theorem cX7_content_21 {G : gx} {d mc ms cc zz d2 mc2 ms2 : Nat} {L : List (Option Value)} {S : List Value} {h : ah} {Q Q2 : Option Value → ah → Prop} {k : Nat} {fs : List Value} (hM : Ct G mX3_ringsOfAmounts d2 mc2 ms2 (.ref (k + 2) :: []) h Q2) (hc : h (k + 2) = (3, .inl fs)) (hdd : d2 < d ∧ d ≤ 9) (hrm : (S.map fun v => v.category).sum ≤ 8) (hf : cc + mc2 ≤ mc ∧ zz + ms2 ≤ ms) (kk : ∀ r h2, Q2 r h2 → V G mX7_content (d, mc, ms, cc + mc2, zz + ms2) 24 L (r.toList ++ S) h2 Q) : V G mX7_content (d, mc, ms, cc, zz) 21 L (.ref (k + 2) :: S) h Q := V_callVN (ci := 3) (T := TX3) (N := 4) hM dX7_content_21 ⟨km_X7_124, ki_X3_ringsOfAmounts, ks_X3_ringsOfAmounts⟩ cw_X3_ringsOfAmounts rfl hc (by decide) hdd rfl rfl hrm hf kk
theorem tX7_factor_0 {G : gx} {b : bg} {h : ah} {Q : Option Value → ah → Prop} {x1 : Int32} {x2 : Int32} {ufirstFound : Int32} {ulatestFinding : Int32} {wletters : Int32} {wlength : Int32} {wall : Int32} {whigh : Int32} (g2 : h 2 = (7, .inl [.ref 3, .ref 5, .ref 9, .ref 17, .ref 23, .ref 36, .ref 38, .int ufirstFound, .int ulatestFinding])) (g3 : h 3 = (6, .inl [.ref 4, .int wletters, .int wlength, .int wall, .int whigh])) (q1 : (x1 < (0 : Int32)) → Q (some (.int (-2 : Int32))) h) (q2 : (¬ x1 < (0 : Int32)) → (wlength ≤ x1) → Q (some (.int (-2 : Int32))) h) (q3 : (¬ x1 < (0 : Int32)) → (¬ wlength ≤ x1) → V G mX7_factor b 20 [some (.ref 2), some (.int x1), some (.int x2)] [.int x2, .ref 3] h Q) : V G mX7_factor b 0 [some (.ref 2), some (.int x1), some (.int x2)] [] h Q := by
  refine V_iload_n dX7_factor_0 rfl rfl ?_
  refine V_if_lt (t := 26) dX7_factor_1 (by decide) (fun z1 => ?_) (fun z1 => ?_)
  ·
    refine V_bipush dX7_factor_26 bp_m2 ?_
    exact V_iret dX7_factor_28 rfl (q1 z1)
  ·
    refine V_iload_n dX7_factor_4 rfl rfl ?_
    refine V_aload_n dX7_factor_5 rfl rfl ?_
    refine V_get (ci := 7) (j := 0) (C0 := RX7) (T := TX7) (N := 9) dX7_factor_6 rfl g2 (by decide) (by decide) kf_X7_10 rfl ?_
    refine V_getN (ci := 6) (j := 2) (C0 := RX6) (T := TX6) (N := 5) dX7_factor_9 rfl g3 (by decide) (by decide) kf_X7_114 rfl ?_
    refine V_icmp_ge (t := 26) dX7_factor_12 (by decide) (fun z2 => ?_) (fun z2 => ?_)
    ·
      refine V_bipush dX7_factor_26 bp_m2 ?_
      exact V_iret dX7_factor_28 rfl (q2 z1 z2)
    ·
      refine V_aload_n dX7_factor_15 rfl rfl ?_
      refine V_get (ci := 7) (j := 0) (C0 := RX7) (T := TX7) (N := 9) dX7_factor_16 rfl g2 (by decide) (by decide) kf_X7_10 rfl ?_
      refine V_iload_n dX7_factor_19 rfl rfl ?_
      exact V_sub (by exact (And.intro rfl (And.intro rfl (And.intro rfl True.intro)))) (q3 z1 z2)
theorem tX7_factor_23 {G : gx} {b : bg} {h : ah} {Q : Option Value → ah → Prop} {x1 : Int32} {x2 : Int32} {s0 : Int32} {ufirstFound : Int32} {ulatestFinding : Int32} (g2 : h 2 = (7, .inl [.ref 3, .ref 5, .ref 9, .ref 17, .ref 23, .ref 36, .ref 38, .int ufirstFound, .int ulatestFinding])) (q1 : (¬ s0 = (0 : Int32)) → V G mX7_factor b 35 [some (.ref 2), some (.int x1), some (.int x2)] [.int x2, .int x1, .ref 9] h Q) (q2 : (s0 = (0 : Int32)) → Q (some (.int (-2 : Int32))) h) : V G mX7_factor b 23 [some (.ref 2), some (.int x1), some (.int x2)] [.int s0] h Q := by
  refine V_if_ne (t := 29) dX7_factor_23 (by decide) (fun z1 => ?_) (fun z1 => ?_)
  ·
    refine V_aload_n dX7_factor_29 rfl rfl ?_
    refine V_get (ci := 7) (j := 2) (C0 := RX7) (T := TX7) (N := 9) dX7_factor_30 rfl g2 (by decide) (by decide) kf_X7_28 rfl ?_
    refine V_iload_n dX7_factor_33 rfl rfl ?_
    refine V_iload_n dX7_factor_34 rfl rfl ?_
    exact V_sub (by exact (And.intro rfl (And.intro rfl (And.intro rfl True.intro)))) (q1 z1)
  ·
    refine V_bipush dX7_factor_26 bp_m2 ?_
    exact V_iret dX7_factor_28 rfl (q2 z1)
theorem tX7_factor_38 {G : gx} {b : bg} {h : ah} {Q : Option Value → ah → Prop} {x1 : Int32} {x2 : Int32} {s0 : Int32} (q1 : Q (some (.int s0)) h) : V G mX7_factor b 38 [some (.ref 2), some (.int x1), some (.int x2)] [.int s0] h Q := by
  exact V_iret dX7_factor_38 rfl (q1)
theorem cX7_factor_20 {G : gx} {d mc ms cc zz d2 mc2 ms2 : Nat} {L : List (Option Value)} {S : List Value} {h : ah} {Q Q2 : Option Value → ah → Prop} {k : Nat} {fs : List Value} {a0 : Value} (hM : Ct G mX6_isLetter d2 mc2 ms2 (.ref (k + 2) :: [a0]) h Q2) (hc : h (k + 2) = (6, .inl fs)) (hdd : d2 < d ∧ d ≤ 9) (hrm : (S.map fun v => v.category).sum ≤ 8) (hf : cc + mc2 ≤ mc ∧ zz + ms2 ≤ ms) (kk : ∀ r h2, Q2 r h2 → V G mX7_factor (d, mc, ms, cc + mc2, zz + ms2) 23 L (r.toList ++ S) h2 Q) : V G mX7_factor (d, mc, ms, cc, zz) 20 L (a0 :: .ref (k + 2) :: S) h Q := V_callVN (ci := 6) (T := TX6) (N := 5) hM dX7_factor_20 ⟨km_X7_127, ki_X6_isLetter, ks_X6_isLetter⟩ cw_X6_isLetter rfl hc (by decide) hdd rfl rfl hrm hf kk
theorem cX7_factor_35 {G : gx} {d mc ms cc zz d2 mc2 ms2 : Nat} {L : List (Option Value)} {S : List Value} {h : ah} {Q Q2 : Option Value → ah → Prop} {k : Nat} {fs : List Value} {a0 a1 : Value} (hM : Ct G mX2_changeFactor d2 mc2 ms2 (.ref (k + 2) :: [a0, a1]) h Q2) (hc : h (k + 2) = (2, .inl fs)) (hdd : d2 < d ∧ d ≤ 9) (hrm : (S.map fun v => v.category).sum ≤ 8) (hf : cc + mc2 ≤ mc ∧ zz + ms2 ≤ ms) (kk : ∀ r h2, Q2 r h2 → V G mX7_factor (d, mc, ms, cc + mc2, zz + ms2) 38 L (r.toList ++ S) h2 Q) : V G mX7_factor (d, mc, ms, cc, zz) 35 L (a1 :: a0 :: .ref (k + 2) :: S) h Q := V_callVN (ci := 2) (T := TX2) (N := 14) hM dX7_factor_35 ⟨km_X7_130, ki_X2_changeFactor, ks_X2_changeFactor⟩ cw_X2_changeFactor rfl hc (by decide) hdd rfl rfl hrm hf kk
theorem tX7_sum_0 {G : gx} {b : bg} {h : ah} {Q : Option Value → ah → Prop} {x1 : Int32} {ufirstFound : Int32} {ulatestFinding : Int32} (g2 : h 2 = (7, .inl [.ref 3, .ref 5, .ref 9, .ref 17, .ref 23, .ref 36, .ref 38, .int ufirstFound, .int ulatestFinding])) (q1 : V G mX7_sum b 5 [some (.ref 2), some (.int x1)] [.int x1, .ref 3] h Q) : V G mX7_sum b 0 [some (.ref 2), some (.int x1)] [] h Q := by
  refine V_aload_n dX7_sum_0 rfl rfl ?_
  refine V_get (ci := 7) (j := 0) (C0 := RX7) (T := TX7) (N := 9) dX7_sum_1 rfl g2 (by decide) (by decide) kf_X7_10 rfl ?_
  refine V_iload_n dX7_sum_4 rfl rfl ?_
  exact V_sub (by exact (And.intro rfl (And.intro rfl True.intro))) (q1)
theorem tX7_sum_8 {G : gx} {b : bg} {h : ah} {Q : Option Value → ah → Prop} {x1 : Int32} {s0 : Int32} {ufirstFound : Int32} {ulatestFinding : Int32} (g2 : h 2 = (7, .inl [.ref 3, .ref 5, .ref 9, .ref 17, .ref 23, .ref 36, .ref 38, .int ufirstFound, .int ulatestFinding])) (q1 : (s0 = (0 : Int32)) → Q (some (.int (-2 : Int32))) h) (q2 : (¬ s0 = (0 : Int32)) → V G mX7_sum b 16 [some (.ref 2), some (.int x1)] [.int x1, .ref 9] h Q) : V G mX7_sum b 8 [some (.ref 2), some (.int x1)] [.int s0] h Q := by
  refine V_if_eq (t := 22) dX7_sum_8 (by decide) (fun z1 => ?_) (fun z1 => ?_)
  ·
    refine V_bipush dX7_sum_22 bp_m2 ?_
    exact V_iret dX7_sum_24 rfl (q1 z1)
  ·
    refine V_aload_n dX7_sum_11 rfl rfl ?_
    refine V_get (ci := 7) (j := 2) (C0 := RX7) (T := TX7) (N := 9) dX7_sum_12 rfl g2 (by decide) (by decide) kf_X7_28 rfl ?_
    refine V_iload_n dX7_sum_15 rfl rfl ?_
    exact V_sub (by exact (And.intro rfl (And.intro rfl True.intro))) (q2 z1)
theorem tX7_sum_19 {G : gx} {b : bg} {h : ah} {Q : Option Value → ah → Prop} {x1 : Int32} {s0 : Int32} (q1 : Q (some (.int s0)) h) : V G mX7_sum b 19 [some (.ref 2), some (.int x1)] [.int s0] h Q := by
  refine V_goto (t := 24) dX7_sum_19 (by decide) ?_
  exact V_iret dX7_sum_24 rfl (q1)
theorem cX7_sum_5 {G : gx} {d mc ms cc zz d2 mc2 ms2 : Nat} {L : List (Option Value)} {S : List Value} {h : ah} {Q Q2 : Option Value → ah → Prop} {k : Nat} {fs : List Value} {a0 : Value} (hM : Ct G mX6_isLetter d2 mc2 ms2 (.ref (k + 2) :: [a0]) h Q2) (hc : h (k + 2) = (6, .inl fs)) (hdd : d2 < d ∧ d ≤ 9) (hrm : (S.map fun v => v.category).sum ≤ 8) (hf : cc + mc2 ≤ mc ∧ zz + ms2 ≤ ms) (kk : ∀ r h2, Q2 r h2 → V G mX7_sum (d, mc, ms, cc + mc2, zz + ms2) 8 L (r.toList ++ S) h2 Q) : V G mX7_sum (d, mc, ms, cc, zz) 5 L (a0 :: .ref (k + 2) :: S) h Q := V_callVN (ci := 6) (T := TX6) (N := 5) hM dX7_sum_5 ⟨km_X7_127, ki_X6_isLetter, ks_X6_isLetter⟩ cw_X6_isLetter rfl hc (by decide) hdd rfl rfl hrm hf kk
theorem cX7_sum_16 {G : gx} {d mc ms cc zz d2 mc2 ms2 : Nat} {L : List (Option Value)} {S : List Value} {h : ah} {Q Q2 : Option Value → ah → Prop} {k : Nat} {fs : List Value} {a0 : Value} (hM : Ct G mX2_changeSum d2 mc2 ms2 (.ref (k + 2) :: [a0]) h Q2) (hc : h (k + 2) = (2, .inl fs)) (hdd : d2 < d ∧ d ≤ 9) (hrm : (S.map fun v => v.category).sum ≤ 8) (hf : cc + mc2 ≤ mc ∧ zz + ms2 ≤ ms) (kk : ∀ r h2, Q2 r h2 → V G mX7_sum (d, mc, ms, cc + mc2, zz + ms2) 19 L (r.toList ++ S) h2 Q) : V G mX7_sum (d, mc, ms, cc, zz) 16 L (a0 :: .ref (k + 2) :: S) h Q := V_callVN (ci := 2) (T := TX2) (N := 14) hM dX7_sum_16 ⟨km_X7_133, ki_X2_changeSum, ks_X2_changeSum⟩ cw_X2_changeSum rfl hc (by decide) hdd rfl rfl hrm hf kk
theorem tX7_go_0 {G : gx} {b : bg} {h : ah} {Q : Option Value → ah → Prop} {x1 : Int32} {ufirstFound : Int32} {ulatestFinding : Int32} (g2 : h 2 = (7, .inl [.ref 3, .ref 5, .ref 9, .ref 17, .ref 23, .ref 36, .ref 38, .int ufirstFound, .int ulatestFinding])) (q1 : V G mX7_go b 5 [some (.ref 2), some (.int x1)] [.int x1, .ref 3] h Q) : V G mX7_go b 0 [some (.ref 2), some (.int x1)] [] h Q := by
  refine V_aload_n dX7_go_0 rfl rfl ?_
  refine V_get (ci := 7) (j := 0) (C0 := RX7) (T := TX7) (N := 9) dX7_go_1 rfl g2 (by decide) (by decide) kf_X7_10 rfl ?_
  refine V_iload_n dX7_go_4 rfl rfl ?_
  exact V_sub (by exact (And.intro rfl (And.intro rfl True.intro))) (q1)
theorem tX7_go_8 {G : gx} {b : bg} {h : ah} {Q : Option Value → ah → Prop} {x1 : Int32} {s0 : Int32} {ufirstFound : Int32} {ulatestFinding : Int32} (g2 : h 2 = (7, .inl [.ref 3, .ref 5, .ref 9, .ref 17, .ref 23, .ref 36, .ref 38, .int ufirstFound, .int ulatestFinding])) (q1 : (s0 = (0 : Int32)) → Q (some (.int (-2 : Int32))) h) (q2 : (¬ s0 = (0 : Int32)) → V G mX7_go b 16 [some (.ref 2), some (.int x1)] [.int x1, .ref 9] h Q) : V G mX7_go b 8 [some (.ref 2), some (.int x1)] [.int s0] h Q := by
  refine V_if_eq (t := 22) dX7_go_8 (by decide) (fun z1 => ?_) (fun z1 => ?_)
  ·
    refine V_bipush dX7_go_22 bp_m2 ?_
    exact V_iret dX7_go_24 rfl (q1 z1)
  ·
    refine V_aload_n dX7_go_11 rfl rfl ?_
    refine V_get (ci := 7) (j := 2) (C0 := RX7) (T := TX7) (N := 9) dX7_go_12 rfl g2 (by decide) (by decide) kf_X7_28 rfl ?_
    refine V_iload_n dX7_go_15 rfl rfl ?_
    exact V_sub (by exact (And.intro rfl (And.intro rfl True.intro))) (q2 z1)
theorem tX7_go_19 {G : gx} {b : bg} {h : ah} {Q : Option Value → ah → Prop} {x1 : Int32} {s0 : Int32} (q1 : Q (some (.int s0)) h) : V G mX7_go b 19 [some (.ref 2), some (.int x1)] [.int s0] h Q := by
  refine V_goto (t := 24) dX7_go_19 (by decide) ?_
  exact V_iret dX7_go_24 rfl (q1)
theorem cX7_go_5 {G : gx} {d mc ms cc zz d2 mc2 ms2 : Nat} {L : List (Option Value)} {S : List Value} {h : ah} {Q Q2 : Option Value → ah → Prop} {k : Nat} {fs : List Value} {a0 : Value} (hM : Ct G mX6_has d2 mc2 ms2 (.ref (k + 2) :: [a0]) h Q2) (hc : h (k + 2) = (6, .inl fs)) (hdd : d2 < d ∧ d ≤ 9) (hrm : (S.map fun v => v.category).sum ≤ 8) (hf : cc + mc2 ≤ mc ∧ zz + ms2 ≤ ms) (kk : ∀ r h2, Q2 r h2 → V G mX7_go (d, mc, ms, cc + mc2, zz + ms2) 8 L (r.toList ++ S) h2 Q) : V G mX7_go (d, mc, ms, cc, zz) 5 L (a0 :: .ref (k + 2) :: S) h Q := V_callVN (ci := 6) (T := TX6) (N := 5) hM dX7_go_5 ⟨km_X7_81, ki_X6_has, ks_X6_has⟩ cw_X6_has rfl hc (by decide) hdd rfl rfl hrm hf kk
theorem cX7_go_16 {G : gx} {d mc ms cc zz d2 mc2 ms2 : Nat} {L : List (Option Value)} {S : List Value} {h : ah} {Q Q2 : Option Value → ah → Prop} {k : Nat} {fs : List Value} {a0 : Value} (hM : Ct G mX2_leadOf d2 mc2 ms2 (.ref (k + 2) :: [a0]) h Q2) (hc : h (k + 2) = (2, .inl fs)) (hdd : d2 < d ∧ d ≤ 9) (hrm : (S.map fun v => v.category).sum ≤ 8) (hf : cc + mc2 ≤ mc ∧ zz + ms2 ≤ ms) (kk : ∀ r h2, Q2 r h2 → V G mX7_go (d, mc, ms, cc + mc2, zz + ms2) 19 L (r.toList ++ S) h2 Q) : V G mX7_go (d, mc, ms, cc, zz) 16 L (a0 :: .ref (k + 2) :: S) h Q := V_callVN (ci := 2) (T := TX2) (N := 14) hM dX7_go_16 ⟨km_X7_136, ki_X2_leadOf, ks_X2_leadOf⟩ cw_X2_leadOf rfl hc (by decide) hdd rfl rfl hrm hf kk
theorem tX7_right_0 {G : gx} {b : bg} {h : ah} {Q : Option Value → ah → Prop} {ufirstFound : Int32} {ulatestFinding : Int32} (g2 : h 2 = (7, .inl [.ref 3, .ref 5, .ref 9, .ref 17, .ref 23, .ref 36, .ref 38, .int ufirstFound, .int ulatestFinding])) (q1 : V G mX7_right b 4 [some (.ref 2)] [.ref 9] h Q) : V G mX7_right b 0 [some (.ref 2)] [] h Q := by
  refine V_aload_n dX7_right_0 rfl rfl ?_
  refine V_get (ci := 7) (j := 2) (C0 := RX7) (T := TX7) (N := 9) dX7_right_1 rfl g2 (by decide) (by decide) kf_X7_28 rfl ?_
  exact V_sub (by exact (And.intro rfl True.intro)) (q1)
theorem tX7_right_7 {G : gx} {b : bg} {h : ah} {Q : Option Value → ah → Prop} {s0 : Int32} (q1 : (s0 = (0 : Int32)) → Q (some (.int (0 : Int32))) h) (q2 : (¬ s0 = (0 : Int32)) → Q (some (.int (1 : Int32))) h) : V G mX7_right b 7 [some (.ref 2)] [.int s0] h Q := by
  refine V_if_eq (t := 14) dX7_right_7 (by decide) (fun z1 => ?_) (fun z1 => ?_)
  ·
    refine V_iconst dX7_right_14 ic_0 ?_
    exact V_iret dX7_right_15 rfl (q1 z1)
  ·
    refine V_iconst dX7_right_10 ic_1 ?_
    refine V_goto (t := 15) dX7_right_11 (by decide) ?_
    exact V_iret dX7_right_15 rfl (q2 z1)
theorem cX7_right_4 {G : gx} {d mc ms cc zz d2 mc2 ms2 : Nat} {L : List (Option Value)} {S : List Value} {h : ah} {Q Q2 : Option Value → ah → Prop} {k : Nat} {fs : List Value} (hM : Ct G mX2_isRight d2 mc2 ms2 (.ref (k + 2) :: []) h Q2) (hc : h (k + 2) = (2, .inl fs)) (hdd : d2 < d ∧ d ≤ 9) (hrm : (S.map fun v => v.category).sum ≤ 8) (hf : cc + mc2 ≤ mc ∧ zz + ms2 ≤ ms) (kk : ∀ r h2, Q2 r h2 → V G mX7_right (d, mc, ms, cc + mc2, zz + ms2) 7 L (r.toList ++ S) h2 Q) : V G mX7_right (d, mc, ms, cc, zz) 4 L (.ref (k + 2) :: S) h Q := V_callVN (ci := 2) (T := TX2) (N := 14) hM dX7_right_4 ⟨km_X7_139, ki_X2_isRight, ks_X2_isRight⟩ cw_X2_isRight rfl hc (by decide) hdd rfl rfl hrm hf kk
theorem tX7_exchange_0 {G : gx} {b : bg} {h : ah} {Q : Option Value → ah → Prop} {x1 : Int32} {x2 : Int32} {ufirstFound : Int32} {ulatestFinding : Int32} (g2 : h 2 = (7, .inl [.ref 3, .ref 5, .ref 9, .ref 17, .ref 23, .ref 36, .ref 38, .int ufirstFound, .int ulatestFinding])) (q1 : V G mX7_exchange b 5 [some (.ref 2), some (.int x1), some (.int x2)] [.int x1, .ref 3] h Q) : V G mX7_exchange b 0 [some (.ref 2), some (.int x1), some (.int x2)] [] h Q := by
  refine V_aload_n dX7_exchange_0 rfl rfl ?_
  refine V_get (ci := 7) (j := 0) (C0 := RX7) (T := TX7) (N := 9) dX7_exchange_1 rfl g2 (by decide) (by decide) kf_X7_10 rfl ?_
  refine V_iload_n dX7_exchange_4 rfl rfl ?_
  exact V_sub (by exact (And.intro rfl (And.intro rfl (And.intro rfl True.intro)))) (q1)
theorem tX7_exchange_8 {G : gx} {b : bg} {h : ah} {Q : Option Value → ah → Prop} {x1 : Int32} {x2 : Int32} {s0 : Int32} {ufirstFound : Int32} {ulatestFinding : Int32} (g2 : h 2 = (7, .inl [.ref 3, .ref 5, .ref 9, .ref 17, .ref 23, .ref 36, .ref 38, .int ufirstFound, .int ulatestFinding])) (q1 : (s0 = (0 : Int32)) → Q (some (.int (-2 : Int32))) h) (q2 : (¬ s0 = (0 : Int32)) → V G mX7_exchange b 16 [some (.ref 2), some (.int x1), some (.int x2)] [.int x2, .ref 3] h Q) : V G mX7_exchange b 8 [some (.ref 2), some (.int x1), some (.int x2)] [.int s0] h Q := by
  refine V_if_eq (t := 34) dX7_exchange_8 (by decide) (fun z1 => ?_) (fun z1 => ?_)
  ·
    refine V_bipush dX7_exchange_34 bp_m2 ?_
    exact V_iret dX7_exchange_36 rfl (q1 z1)
  ·
    refine V_aload_n dX7_exchange_11 rfl rfl ?_
    refine V_get (ci := 7) (j := 0) (C0 := RX7) (T := TX7) (N := 9) dX7_exchange_12 rfl g2 (by decide) (by decide) kf_X7_10 rfl ?_
    refine V_iload_n dX7_exchange_15 rfl rfl ?_
    exact V_sub (by exact (And.intro rfl (And.intro rfl (And.intro rfl True.intro)))) (q2 z1)
theorem tX7_exchange_19 {G : gx} {b : bg} {h : ah} {Q : Option Value → ah → Prop} {x1 : Int32} {x2 : Int32} {s0 : Int32} {ufirstFound : Int32} {ulatestFinding : Int32} (g2 : h 2 = (7, .inl [.ref 3, .ref 5, .ref 9, .ref 17, .ref 23, .ref 36, .ref 38, .int ufirstFound, .int ulatestFinding])) (q1 : (s0 = (0 : Int32)) → Q (some (.int (-2 : Int32))) h) (q2 : (¬ s0 = (0 : Int32)) → V G mX7_exchange b 28 [some (.ref 2), some (.int x1), some (.int x2)] [.int x2, .int x1, .ref 3] h Q) : V G mX7_exchange b 19 [some (.ref 2), some (.int x1), some (.int x2)] [.int s0] h Q := by
  refine V_if_eq (t := 34) dX7_exchange_19 (by decide) (fun z1 => ?_) (fun z1 => ?_)
  ·
    refine V_bipush dX7_exchange_34 bp_m2 ?_
    exact V_iret dX7_exchange_36 rfl (q1 z1)
  ·
    refine V_aload_n dX7_exchange_22 rfl rfl ?_
    refine V_get (ci := 7) (j := 0) (C0 := RX7) (T := TX7) (N := 9) dX7_exchange_23 rfl g2 (by decide) (by decide) kf_X7_10 rfl ?_
    refine V_iload_n dX7_exchange_26 rfl rfl ?_
    refine V_iload_n dX7_exchange_27 rfl rfl ?_
    exact V_sub (by exact (And.intro rfl (And.intro rfl (And.intro rfl True.intro)))) (q2 z1)
theorem tX7_exchange_31 {G : gx} {b : bg} {h : ah} {Q : Option Value → ah → Prop} {x1 : Int32} {x2 : Int32} {s0 : Int32} {ufirstFound : Int32} {ulatestFinding : Int32} (g2 : h 2 = (7, .inl [.ref 3, .ref 5, .ref 9, .ref 17, .ref 23, .ref 36, .ref 38, .int ufirstFound, .int ulatestFinding])) (q1 : (¬ s0 = (0 : Int32)) → V G mX7_exchange b 41 [some (.ref 2), some (.int x1), some (.int x2)] [.ref 9] h Q) (q2 : (s0 = (0 : Int32)) → Q (some (.int (-2 : Int32))) h) : V G mX7_exchange b 31 [some (.ref 2), some (.int x1), some (.int x2)] [.int s0] h Q := by
  refine V_if_ne (t := 37) dX7_exchange_31 (by decide) (fun z1 => ?_) (fun z1 => ?_)
  ·
    refine V_aload_n dX7_exchange_37 rfl rfl ?_
    refine V_get (ci := 7) (j := 2) (C0 := RX7) (T := TX7) (N := 9) dX7_exchange_38 rfl g2 (by decide) (by decide) kf_X7_28 rfl ?_
    exact V_sub (by exact (And.intro rfl (And.intro rfl (And.intro rfl True.intro)))) (q1 z1)
  ·
    refine V_bipush dX7_exchange_34 bp_m2 ?_
    exact V_iret dX7_exchange_36 rfl (q2 z1)
theorem tX7_exchange_44 {G : gx} {b : bg} {h : ah} {Q : Option Value → ah → Prop} {x1 : Int32} {x2 : Int32} {s0 : Int32} {ufirstFound : Int32} {ulatestFinding : Int32} (g2 : h 2 = (7, .inl [.ref 3, .ref 5, .ref 9, .ref 17, .ref 23, .ref 36, .ref 38, .int ufirstFound, .int ulatestFinding])) (q1 : (¬ s0 = (0 : Int32)) → V G mX7_exchange b 54 [some (.ref 2), some (.int x1), some (.int x2)] [.ref 9] h Q) (q2 : (s0 = (0 : Int32)) → Q (some (.int (-3 : Int32))) h) : V G mX7_exchange b 44 [some (.ref 2), some (.int x1), some (.int x2)] [.int s0] h Q := by
  refine V_if_ne (t := 50) dX7_exchange_44 (by decide) (fun z1 => ?_) (fun z1 => ?_)
  ·
    refine V_aload_n dX7_exchange_50 rfl rfl ?_
    refine V_get (ci := 7) (j := 2) (C0 := RX7) (T := TX7) (N := 9) dX7_exchange_51 rfl g2 (by decide) (by decide) kf_X7_28 rfl ?_
    exact V_sub (by exact (And.intro rfl (And.intro rfl (And.intro rfl True.intro)))) (q1 z1)
  ·
    refine V_bipush dX7_exchange_47 bp_m3 ?_
    exact V_iret dX7_exchange_49 rfl (q2 z1)
theorem tX7_exchange_57 {G : gx} {b : bg} {h : ah} {Q : Option Value → ah → Prop} {x1 : Int32} {x2 : Int32} {s0 : Int32} {ufirstFound : Int32} {ulatestFinding : Int32} (g2 : h 2 = (7, .inl [.ref 3, .ref 5, .ref 9, .ref 17, .ref 23, .ref 36, .ref 38, .int ufirstFound, .int ulatestFinding])) (q1 : (s0 = (0 : Int32)) → V G mX7_exchange b 71 [some (.ref 2), some (.int x1), some (.int x2)] [.int x2, .int x1, .ref 9] h Q) (q2 : (¬ s0 = (0 : Int32)) → Q (some (.int (-4 : Int32))) h) : V G mX7_exchange b 57 [some (.ref 2), some (.int x1), some (.int x2)] [.int s0] h Q := by
  refine V_if_eq (t := 65) dX7_exchange_57 (by decide) (fun z1 => ?_) (fun z1 => ?_)
  ·
    refine V_aload_n dX7_exchange_65 rfl rfl ?_
    refine V_get (ci := 7) (j := 2) (C0 := RX7) (T := TX7) (N := 9) dX7_exchange_66 rfl g2 (by decide) (by decide) kf_X7_28 rfl ?_
    refine V_iload_n dX7_exchange_69 rfl rfl ?_
    refine V_iload_n dX7_exchange_70 rfl rfl ?_
    exact V_sub (by exact (And.intro rfl (And.intro rfl (And.intro rfl True.intro)))) (q1 z1)
  ·
    refine V_bipush dX7_exchange_60 bp_m4 ?_
    refine V_goto (t := 74) dX7_exchange_62 (by decide) ?_
    exact V_iret dX7_exchange_74 rfl (q2 z1)
theorem tX7_exchange_74 {G : gx} {b : bg} {h : ah} {Q : Option Value → ah → Prop} {x1 : Int32} {x2 : Int32} {s0 : Int32} (q1 : Q (some (.int s0)) h) : V G mX7_exchange b 74 [some (.ref 2), some (.int x1), some (.int x2)] [.int s0] h Q := by
  exact V_iret dX7_exchange_74 rfl (q1)
theorem cX7_exchange_5 {G : gx} {d mc ms cc zz d2 mc2 ms2 : Nat} {L : List (Option Value)} {S : List Value} {h : ah} {Q Q2 : Option Value → ah → Prop} {k : Nat} {fs : List Value} {a0 : Value} (hM : Ct G mX6_has d2 mc2 ms2 (.ref (k + 2) :: [a0]) h Q2) (hc : h (k + 2) = (6, .inl fs)) (hdd : d2 < d ∧ d ≤ 9) (hrm : (S.map fun v => v.category).sum ≤ 8) (hf : cc + mc2 ≤ mc ∧ zz + ms2 ≤ ms) (kk : ∀ r h2, Q2 r h2 → V G mX7_exchange (d, mc, ms, cc + mc2, zz + ms2) 8 L (r.toList ++ S) h2 Q) : V G mX7_exchange (d, mc, ms, cc, zz) 5 L (a0 :: .ref (k + 2) :: S) h Q := V_callVN (ci := 6) (T := TX6) (N := 5) hM dX7_exchange_5 ⟨km_X7_81, ki_X6_has, ks_X6_has⟩ cw_X6_has rfl hc (by decide) hdd rfl rfl hrm hf kk
theorem cX7_exchange_16 {G : gx} {d mc ms cc zz d2 mc2 ms2 : Nat} {L : List (Option Value)} {S : List Value} {h : ah} {Q Q2 : Option Value → ah → Prop} {k : Nat} {fs : List Value} {a0 : Value} (hM : Ct G mX6_has d2 mc2 ms2 (.ref (k + 2) :: [a0]) h Q2) (hc : h (k + 2) = (6, .inl fs)) (hdd : d2 < d ∧ d ≤ 9) (hrm : (S.map fun v => v.category).sum ≤ 8) (hf : cc + mc2 ≤ mc ∧ zz + ms2 ≤ ms) (kk : ∀ r h2, Q2 r h2 → V G mX7_exchange (d, mc, ms, cc + mc2, zz + ms2) 19 L (r.toList ++ S) h2 Q) : V G mX7_exchange (d, mc, ms, cc, zz) 16 L (a0 :: .ref (k + 2) :: S) h Q := V_callVN (ci := 6) (T := TX6) (N := 5) hM dX7_exchange_16 ⟨km_X7_81, ki_X6_has, ks_X6_has⟩ cw_X6_has rfl hc (by decide) hdd rfl rfl hrm hf kk
theorem cX7_exchange_28 {G : gx} {d mc ms cc zz d2 mc2 ms2 : Nat} {L : List (Option Value)} {S : List Value} {h : ah} {Q Q2 : Option Value → ah → Prop} {k : Nat} {fs : List Value} {a0 a1 : Value} (hM : Ct G mX6_differInFirst d2 mc2 ms2 (.ref (k + 2) :: [a0, a1]) h Q2) (hc : h (k + 2) = (6, .inl fs)) (hdd : d2 < d ∧ d ≤ 9) (hrm : (S.map fun v => v.category).sum ≤ 8) (hf : cc + mc2 ≤ mc ∧ zz + ms2 ≤ ms) (kk : ∀ r h2, Q2 r h2 → V G mX7_exchange (d, mc, ms, cc + mc2, zz + ms2) 31 L (r.toList ++ S) h2 Q) : V G mX7_exchange (d, mc, ms, cc, zz) 28 L (a1 :: a0 :: .ref (k + 2) :: S) h Q := V_callVN (ci := 6) (T := TX6) (N := 5) hM dX7_exchange_28 ⟨km_X7_143, ki_X6_differInFirst, ks_X6_differInFirst⟩ cw_X6_differInFirst rfl hc (by decide) hdd rfl rfl hrm hf kk
theorem cX7_exchange_41 {G : gx} {d mc ms cc zz d2 mc2 ms2 : Nat} {L : List (Option Value)} {S : List Value} {h : ah} {Q Q2 : Option Value → ah → Prop} {k : Nat} {fs : List Value} (hM : Ct G mX2_isRight d2 mc2 ms2 (.ref (k + 2) :: []) h Q2) (hc : h (k + 2) = (2, .inl fs)) (hdd : d2 < d ∧ d ≤ 9) (hrm : (S.map fun v => v.category).sum ≤ 8) (hf : cc + mc2 ≤ mc ∧ zz + ms2 ≤ ms) (kk : ∀ r h2, Q2 r h2 → V G mX7_exchange (d, mc, ms, cc + mc2, zz + ms2) 44 L (r.toList ++ S) h2 Q) : V G mX7_exchange (d, mc, ms, cc, zz) 41 L (.ref (k + 2) :: S) h Q := V_callVN (ci := 2) (T := TX2) (N := 14) hM dX7_exchange_41 ⟨km_X7_139, ki_X2_isRight, ks_X2_isRight⟩ cw_X2_isRight rfl hc (by decide) hdd rfl rfl hrm hf kk
theorem cX7_exchange_54 {G : gx} {d mc ms cc zz d2 mc2 ms2 : Nat} {L : List (Option Value)} {S : List Value} {h : ah} {Q Q2 : Option Value → ah → Prop} {k : Nat} {fs : List Value} (hM : Ct G mX2_isFull d2 mc2 ms2 (.ref (k + 2) :: []) h Q2) (hc : h (k + 2) = (2, .inl fs)) (hdd : d2 < d ∧ d ≤ 9) (hrm : (S.map fun v => v.category).sum ≤ 8) (hf : cc + mc2 ≤ mc ∧ zz + ms2 ≤ ms) (kk : ∀ r h2, Q2 r h2 → V G mX7_exchange (d, mc, ms, cc + mc2, zz + ms2) 57 L (r.toList ++ S) h2 Q) : V G mX7_exchange (d, mc, ms, cc, zz) 54 L (.ref (k + 2) :: S) h Q := V_callVN (ci := 2) (T := TX2) (N := 14) hM dX7_exchange_54 ⟨km_X7_147, ki_X2_isFull, ks_X2_isFull⟩ cw_X2_isFull rfl hc (by decide) hdd rfl rfl hrm hf kk
theorem cX7_exchange_71 {G : gx} {d mc ms cc zz d2 mc2 ms2 : Nat} {L : List (Option Value)} {S : List Value} {h : ah} {Q Q2 : Option Value → ah → Prop} {k : Nat} {fs : List Value} {a0 a1 : Value} (hM : Ct G mX2_makeExchange d2 mc2 ms2 (.ref (k + 2) :: [a0, a1]) h Q2) (hc : h (k + 2) = (2, .inl fs)) (hdd : d2 < d ∧ d ≤ 9) (hrm : (S.map fun v => v.category).sum ≤ 8) (hf : cc + mc2 ≤ mc ∧ zz + ms2 ≤ ms) (kk : ∀ r h2, Q2 r h2 → V G mX7_exchange (d, mc, ms, cc + mc2, zz + ms2) 74 L (r.toList ++ S) h2 Q) : V G mX7_exchange (d, mc, ms, cc, zz) 71 L (a1 :: a0 :: .ref (k + 2) :: S) h Q := V_callVN (ci := 2) (T := TX2) (N := 14) hM dX7_exchange_71 ⟨km_X7_150, ki_X2_makeExchange, ks_X2_makeExchange⟩ cw_X2_makeExchange rfl hc (by decide) hdd rfl rfl hrm hf kk
theorem tX7_back_0 {G : gx} {b : bg} {h : ah} {Q : Option Value → ah → Prop} {ufirstFound : Int32} {ulatestFinding : Int32} {raddend : Int32} {rexchanges : Int32} {rleadsStand : Int32} {rnumbersStand : Int32} {rcycleCount : Int32} {rcountStands : Int32} (g2 : h 2 = (7, .inl [.ref 3, .ref 5, .ref 9, .ref 17, .ref 23, .ref 36, .ref 38, .int ufirstFound, .int ulatestFinding])) (g9 : h 9 = (2, .inl [.ref 3, .ref 10, .int raddend, .ref 11, .ref 12, .int rexchanges, .ref 13, .int rleadsStand, .ref 14, .ref 15, .int rnumbersStand, .int rcycleCount, .int rcountStands, .ref 16])) (q1 : (¬ rexchanges = (0 : Int32)) → V G mX7_back b 19 [some (.ref 2)] [.ref 9] h Q) (q2 : (rexchanges = (0 : Int32)) → Q (some (.int (-3 : Int32))) h) : V G mX7_back b 0 [some (.ref 2)] [] h Q := by
  refine V_aload_n dX7_back_0 rfl rfl ?_
  refine V_get (ci := 7) (j := 2) (C0 := RX7) (T := TX7) (N := 9) dX7_back_1 rfl g2 (by decide) (by decide) kf_X7_28 rfl ?_
  refine V_getN (ci := 2) (j := 5) (C0 := RX2) (T := TX2) (N := 14) dX7_back_4 rfl g9 (by decide) (by decide) kf_X7_153 rfl ?_
  refine V_if_ne (t := 15) dX7_back_7 (by decide) (fun z1 => ?_) (fun z1 => ?_)
  ·
    refine V_aload_n dX7_back_15 rfl rfl ?_
    refine V_get (ci := 7) (j := 2) (C0 := RX7) (T := TX7) (N := 9) dX7_back_16 rfl g2 (by decide) (by decide) kf_X7_28 rfl ?_
    exact V_sub (by exact (And.intro rfl True.intro)) (q1 z1)
  ·
    refine V_bipush dX7_back_10 bp_m3 ?_
    refine V_goto (t := 22) dX7_back_12 (by decide) ?_
    exact V_iret dX7_back_22 rfl (q2 z1)
theorem tX7_back_22 {G : gx} {b : bg} {h : ah} {Q : Option Value → ah → Prop} {s0 : Int32} (q1 : Q (some (.int s0)) h) : V G mX7_back b 22 [some (.ref 2)] [.int s0] h Q := by
  exact V_iret dX7_back_22 rfl (q1)
theorem cX7_back_19 {G : gx} {d mc ms cc zz d2 mc2 ms2 : Nat} {L : List (Option Value)} {S : List Value} {h : ah} {Q Q2 : Option Value → ah → Prop} {k : Nat} {fs : List Value} (hM : Ct G mX2_takeBack d2 mc2 ms2 (.ref (k + 2) :: []) h Q2) (hc : h (k + 2) = (2, .inl fs)) (hdd : d2 < d ∧ d ≤ 9) (hrm : (S.map fun v => v.category).sum ≤ 8) (hf : cc + mc2 ≤ mc ∧ zz + ms2 ≤ ms) (kk : ∀ r h2, Q2 r h2 → V G mX7_back (d, mc, ms, cc + mc2, zz + ms2) 22 L (r.toList ++ S) h2 Q) : V G mX7_back (d, mc, ms, cc, zz) 19 L (.ref (k + 2) :: S) h Q := V_callVN (ci := 2) (T := TX2) (N := 14) hM dX7_back_19 ⟨km_X7_156, ki_X2_takeBack, ks_X2_takeBack⟩ cw_X2_takeBack rfl hc (by decide) hdd rfl rfl hrm hf kk
theorem tX7_cycles_0 {G : gx} {b : bg} {h : ah} {Q : Option Value → ah → Prop} {ufirstFound : Int32} {ulatestFinding : Int32} (g2 : h 2 = (7, .inl [.ref 3, .ref 5, .ref 9, .ref 17, .ref 23, .ref 36, .ref 38, .int ufirstFound, .int ulatestFinding])) (q1 : V G mX7_cycles b 4 [some (.ref 2)] [.ref 9] h Q) : V G mX7_cycles b 0 [some (.ref 2)] [] h Q := by
  refine V_aload_n dX7_cycles_0 rfl rfl ?_
  refine V_get (ci := 7) (j := 2) (C0 := RX7) (T := TX7) (N := 9) dX7_cycles_1 rfl g2 (by decide) (by decide) kf_X7_28 rfl ?_
  exact V_sub (by exact (And.intro rfl True.intro)) (q1)
theorem tX7_cycles_7 {G : gx} {b : bg} {h : ah} {Q : Option Value → ah → Prop} {s0 : Int32} {ufirstFound : Int32} {ulatestFinding : Int32} (g2 : h 2 = (7, .inl [.ref 3, .ref 5, .ref 9, .ref 17, .ref 23, .ref 36, .ref 38, .int ufirstFound, .int ulatestFinding])) (q1 : (s0 = (0 : Int32)) → Q (some (.int (-3 : Int32))) h) (q2 : (¬ s0 = (0 : Int32)) → V G mX7_cycles b 14 [some (.ref 2)] [.ref 9] h Q) : V G mX7_cycles b 7 [some (.ref 2)] [.int s0] h Q := by
  refine V_if_eq (t := 20) dX7_cycles_7 (by decide) (fun z1 => ?_) (fun z1 => ?_)
  ·
    refine V_bipush dX7_cycles_20 bp_m3 ?_
    exact V_iret dX7_cycles_22 rfl (q1 z1)
  ·
    refine V_aload_n dX7_cycles_10 rfl rfl ?_
    refine V_get (ci := 7) (j := 2) (C0 := RX7) (T := TX7) (N := 9) dX7_cycles_11 rfl g2 (by decide) (by decide) kf_X7_28 rfl ?_
    exact V_sub (by exact (And.intro rfl True.intro)) (q2 z1)
theorem tX7_cycles_17 {G : gx} {b : bg} {h : ah} {Q : Option Value → ah → Prop} {s0 : Int32} (q1 : Q (some (.int s0)) h) : V G mX7_cycles b 17 [some (.ref 2)] [.int s0] h Q := by
  refine V_goto (t := 22) dX7_cycles_17 (by decide) ?_
  exact V_iret dX7_cycles_22 rfl (q1)
theorem cX7_cycles_4 {G : gx} {d mc ms cc zz d2 mc2 ms2 : Nat} {L : List (Option Value)} {S : List Value} {h : ah} {Q Q2 : Option Value → ah → Prop} {k : Nat} {fs : List Value} (hM : Ct G mX2_isRight d2 mc2 ms2 (.ref (k + 2) :: []) h Q2) (hc : h (k + 2) = (2, .inl fs)) (hdd : d2 < d ∧ d ≤ 9) (hrm : (S.map fun v => v.category).sum ≤ 8) (hf : cc + mc2 ≤ mc ∧ zz + ms2 ≤ ms) (kk : ∀ r h2, Q2 r h2 → V G mX7_cycles (d, mc, ms, cc + mc2, zz + ms2) 7 L (r.toList ++ S) h2 Q) : V G mX7_cycles (d, mc, ms, cc, zz) 4 L (.ref (k + 2) :: S) h Q := V_callVN (ci := 2) (T := TX2) (N := 14) hM dX7_cycles_4 ⟨km_X7_139, ki_X2_isRight, ks_X2_isRight⟩ cw_X2_isRight rfl hc (by decide) hdd rfl rfl hrm hf kk
theorem cX7_cycles_14 {G : gx} {d mc ms cc zz d2 mc2 ms2 : Nat} {L : List (Option Value)} {S : List Value} {h : ah} {Q Q2 : Option Value → ah → Prop} {k : Nat} {fs : List Value} (hM : Ct G mX2_howManyCycles d2 mc2 ms2 (.ref (k + 2) :: []) h Q2) (hc : h (k + 2) = (2, .inl fs)) (hdd : d2 < d ∧ d ≤ 9) (hrm : (S.map fun v => v.category).sum ≤ 8) (hf : cc + mc2 ≤ mc ∧ zz + ms2 ≤ ms) (kk : ∀ r h2, Q2 r h2 → V G mX7_cycles (d, mc, ms, cc + mc2, zz + ms2) 17 L (r.toList ++ S) h2 Q) : V G mX7_cycles (d, mc, ms, cc, zz) 14 L (.ref (k + 2) :: S) h Q := V_callVN (ci := 2) (T := TX2) (N := 14) hM dX7_cycles_14 ⟨km_X7_159, ki_X2_howManyCycles, ks_X2_howManyCycles⟩ cw_X2_howManyCycles rfl hc (by decide) hdd rfl rfl hrm hf kk
theorem tX7_cycleOf_0 {G : gx} {b : bg} {h : ah} {Q : Option Value → ah → Prop} {x1 : Int32} {ufirstFound : Int32} {ulatestFinding : Int32} (g2 : h 2 = (7, .inl [.ref 3, .ref 5, .ref 9, .ref 17, .ref 23, .ref 36, .ref 38, .int ufirstFound, .int ulatestFinding])) (q1 : V G mX7_cycleOf b 4 [some (.ref 2), some (.int x1)] [.ref 9] h Q) : V G mX7_cycleOf b 0 [some (.ref 2), some (.int x1)] [] h Q := by
  refine V_aload_n dX7_cycleOf_0 rfl rfl ?_
  refine V_get (ci := 7) (j := 2) (C0 := RX7) (T := TX7) (N := 9) dX7_cycleOf_1 rfl g2 (by decide) (by decide) kf_X7_28 rfl ?_
  exact V_sub (by exact (And.intro rfl (And.intro rfl True.intro))) (q1)
theorem tX7_cycleOf_7 {G : gx} {b : bg} {h : ah} {Q : Option Value → ah → Prop} {x1 : Int32} {s0 : Int32} {ufirstFound : Int32} {ulatestFinding : Int32} (g2 : h 2 = (7, .inl [.ref 3, .ref 5, .ref 9, .ref 17, .ref 23, .ref 36, .ref 38, .int ufirstFound, .int ulatestFinding])) (q1 : (¬ s0 = (0 : Int32)) → V G mX7_cycleOf b 18 [some (.ref 2), some (.int x1)] [.int x1, .ref 3] h Q) (q2 : (s0 = (0 : Int32)) → Q (some (.int (-3 : Int32))) h) : V G mX7_cycleOf b 7 [some (.ref 2), some (.int x1)] [.int s0] h Q := by
  refine V_if_ne (t := 13) dX7_cycleOf_7 (by decide) (fun z1 => ?_) (fun z1 => ?_)
  ·
    refine V_aload_n dX7_cycleOf_13 rfl rfl ?_
    refine V_get (ci := 7) (j := 0) (C0 := RX7) (T := TX7) (N := 9) dX7_cycleOf_14 rfl g2 (by decide) (by decide) kf_X7_10 rfl ?_
    refine V_iload_n dX7_cycleOf_17 rfl rfl ?_
    exact V_sub (by exact (And.intro rfl (And.intro rfl True.intro))) (q1 z1)
  ·
    refine V_bipush dX7_cycleOf_10 bp_m3 ?_
    exact V_iret dX7_cycleOf_12 rfl (q2 z1)
theorem tX7_cycleOf_21 {G : gx} {b : bg} {h : ah} {Q : Option Value → ah → Prop} {x1 : Int32} {s0 : Int32} {ufirstFound : Int32} {ulatestFinding : Int32} (g2 : h 2 = (7, .inl [.ref 3, .ref 5, .ref 9, .ref 17, .ref 23, .ref 36, .ref 38, .int ufirstFound, .int ulatestFinding])) (q1 : (s0 = (0 : Int32)) → Q (some (.int (-2 : Int32))) h) (q2 : (¬ s0 = (0 : Int32)) → V G mX7_cycleOf b 29 [some (.ref 2), some (.int x1)] [.int x1, .ref 9] h Q) : V G mX7_cycleOf b 21 [some (.ref 2), some (.int x1)] [.int s0] h Q := by
  refine V_if_eq (t := 35) dX7_cycleOf_21 (by decide) (fun z1 => ?_) (fun z1 => ?_)
  ·
    refine V_bipush dX7_cycleOf_35 bp_m2 ?_
    exact V_iret dX7_cycleOf_37 rfl (q1 z1)
  ·
    refine V_aload_n dX7_cycleOf_24 rfl rfl ?_
    refine V_get (ci := 7) (j := 2) (C0 := RX7) (T := TX7) (N := 9) dX7_cycleOf_25 rfl g2 (by decide) (by decide) kf_X7_28 rfl ?_
    refine V_iload_n dX7_cycleOf_28 rfl rfl ?_
    exact V_sub (by exact (And.intro rfl (And.intro rfl True.intro))) (q2 z1)
theorem tX7_cycleOf_32 {G : gx} {b : bg} {h : ah} {Q : Option Value → ah → Prop} {x1 : Int32} {s0 : Int32} (q1 : Q (some (.int s0)) h) : V G mX7_cycleOf b 32 [some (.ref 2), some (.int x1)] [.int s0] h Q := by
  refine V_goto (t := 37) dX7_cycleOf_32 (by decide) ?_
  exact V_iret dX7_cycleOf_37 rfl (q1)
theorem cX7_cycleOf_4 {G : gx} {d mc ms cc zz d2 mc2 ms2 : Nat} {L : List (Option Value)} {S : List Value} {h : ah} {Q Q2 : Option Value → ah → Prop} {k : Nat} {fs : List Value} (hM : Ct G mX2_isRight d2 mc2 ms2 (.ref (k + 2) :: []) h Q2) (hc : h (k + 2) = (2, .inl fs)) (hdd : d2 < d ∧ d ≤ 9) (hrm : (S.map fun v => v.category).sum ≤ 8) (hf : cc + mc2 ≤ mc ∧ zz + ms2 ≤ ms) (kk : ∀ r h2, Q2 r h2 → V G mX7_cycleOf (d, mc, ms, cc + mc2, zz + ms2) 7 L (r.toList ++ S) h2 Q) : V G mX7_cycleOf (d, mc, ms, cc, zz) 4 L (.ref (k + 2) :: S) h Q := V_callVN (ci := 2) (T := TX2) (N := 14) hM dX7_cycleOf_4 ⟨km_X7_139, ki_X2_isRight, ks_X2_isRight⟩ cw_X2_isRight rfl hc (by decide) hdd rfl rfl hrm hf kk
theorem cX7_cycleOf_18 {G : gx} {d mc ms cc zz d2 mc2 ms2 : Nat} {L : List (Option Value)} {S : List Value} {h : ah} {Q Q2 : Option Value → ah → Prop} {k : Nat} {fs : List Value} {a0 : Value} (hM : Ct G mX6_has d2 mc2 ms2 (.ref (k + 2) :: [a0]) h Q2) (hc : h (k + 2) = (6, .inl fs)) (hdd : d2 < d ∧ d ≤ 9) (hrm : (S.map fun v => v.category).sum ≤ 8) (hf : cc + mc2 ≤ mc ∧ zz + ms2 ≤ ms) (kk : ∀ r h2, Q2 r h2 → V G mX7_cycleOf (d, mc, ms, cc + mc2, zz + ms2) 21 L (r.toList ++ S) h2 Q) : V G mX7_cycleOf (d, mc, ms, cc, zz) 18 L (a0 :: .ref (k + 2) :: S) h Q := V_callVN (ci := 6) (T := TX6) (N := 5) hM dX7_cycleOf_18 ⟨km_X7_81, ki_X6_has, ks_X6_has⟩ cw_X6_has rfl hc (by decide) hdd rfl rfl hrm hf kk
theorem cX7_cycleOf_29 {G : gx} {d mc ms cc zz d2 mc2 ms2 : Nat} {L : List (Option Value)} {S : List Value} {h : ah} {Q Q2 : Option Value → ah → Prop} {k : Nat} {fs : List Value} {a0 : Value} (hM : Ct G mX2_numberOfCycle d2 mc2 ms2 (.ref (k + 2) :: [a0]) h Q2) (hc : h (k + 2) = (2, .inl fs)) (hdd : d2 < d ∧ d ≤ 9) (hrm : (S.map fun v => v.category).sum ≤ 8) (hf : cc + mc2 ≤ mc ∧ zz + ms2 ≤ ms) (kk : ∀ r h2, Q2 r h2 → V G mX7_cycleOf (d, mc, ms, cc + mc2, zz + ms2) 32 L (r.toList ++ S) h2 Q) : V G mX7_cycleOf (d, mc, ms, cc, zz) 29 L (a0 :: .ref (k + 2) :: S) h Q := V_callVN (ci := 2) (T := TX2) (N := 14) hM dX7_cycleOf_29 ⟨km_X7_162, ki_X2_numberOfCycle, ks_X2_numberOfCycle⟩ cw_X2_numberOfCycle rfl hc (by decide) hdd rfl rfl hrm hf kk
theorem tX7_cycle_0 {G : gx} {b : bg} {h : ah} {Q : Option Value → ah → Prop} {x1 : Int32} {x2 : Int32} {ufirstFound : Int32} {ulatestFinding : Int32} (g2 : h 2 = (7, .inl [.ref 3, .ref 5, .ref 9, .ref 17, .ref 23, .ref 36, .ref 38, .int ufirstFound, .int ulatestFinding])) (q1 : V G mX7_cycle b 4 [some (.ref 2), some (.int x1), some (.int x2)] [.ref 9] h Q) : V G mX7_cycle b 0 [some (.ref 2), some (.int x1), some (.int x2)] [] h Q := by
  refine V_aload_n dX7_cycle_0 rfl rfl ?_
  refine V_get (ci := 7) (j := 2) (C0 := RX7) (T := TX7) (N := 9) dX7_cycle_1 rfl g2 (by decide) (by decide) kf_X7_28 rfl ?_
  exact V_sub (by exact (And.intro rfl (And.intro rfl (And.intro rfl True.intro)))) (q1)
theorem tX7_cycle_7 {G : gx} {b : bg} {h : ah} {Q : Option Value → ah → Prop} {x1 : Int32} {x2 : Int32} {s0 : Int32} {ufirstFound : Int32} {ulatestFinding : Int32} (g2 : h 2 = (7, .inl [.ref 3, .ref 5, .ref 9, .ref 17, .ref 23, .ref 36, .ref 38, .int ufirstFound, .int ulatestFinding])) (q1 : (¬ s0 = (0 : Int32)) → (x1 < (0 : Int32)) → Q (some (.int (-2 : Int32))) h) (q2 : (¬ s0 = (0 : Int32)) → (¬ x1 < (0 : Int32)) → V G mX7_cycle b 22 [some (.ref 2), some (.int x1), some (.int x2)] [.ref 9, .int x1] h Q) (q3 : (s0 = (0 : Int32)) → Q (some (.int (-3 : Int32))) h) : V G mX7_cycle b 7 [some (.ref 2), some (.int x1), some (.int x2)] [.int s0] h Q := by
  refine V_if_ne (t := 13) dX7_cycle_7 (by decide) (fun z1 => ?_) (fun z1 => ?_)
  ·
    refine V_iload_n dX7_cycle_13 rfl rfl ?_
    refine V_if_lt (t := 28) dX7_cycle_14 (by decide) (fun z2 => ?_) (fun z2 => ?_)
    ·
      refine V_bipush dX7_cycle_28 bp_m2 ?_
      exact V_iret dX7_cycle_30 rfl (q1 z1 z2)
    ·
      refine V_iload_n dX7_cycle_17 rfl rfl ?_
      refine V_aload_n dX7_cycle_18 rfl rfl ?_
      refine V_get (ci := 7) (j := 2) (C0 := RX7) (T := TX7) (N := 9) dX7_cycle_19 rfl g2 (by decide) (by decide) kf_X7_28 rfl ?_
      exact V_sub (by exact (And.intro rfl (And.intro rfl (And.intro rfl True.intro)))) (q2 z1 z2)
  ·
    refine V_bipush dX7_cycle_10 bp_m3 ?_
    exact V_iret dX7_cycle_12 rfl (q3 z1)
theorem tX7_cycle_25 {G : gx} {b : bg} {h : ah} {Q : Option Value → ah → Prop} {x1 : Int32} {x2 : Int32} {s0 : Int32} {s1 : Int32} (q1 : (s1 < s0) → V G mX7_cycle b 32 [some (.ref 2), some (.int x1), some (.int x2)] [.int x2] h Q) (q2 : (¬ s1 < s0) → Q (some (.int (-2 : Int32))) h) : V G mX7_cycle b 25 [some (.ref 2), some (.int x1), some (.int x2)] [.int s0, .int s1] h Q := by
  refine V_icmp_lt (t := 31) dX7_cycle_25 (by decide) (fun z1 => ?_) (fun z1 => ?_)
  ·
    refine V_iload_n dX7_cycle_31 rfl rfl ?_
    exact V_sub (by exact (And.intro rfl (And.intro rfl (And.intro rfl True.intro)))) (q1 z1)
  ·
    refine V_bipush dX7_cycle_28 bp_m2 ?_
    exact V_iret dX7_cycle_30 rfl (q2 z1)
theorem tX7_cycle_60 {G : gx} {b : bg} {h : ah} {Q : Option Value → ah → Prop} {x1 : Int32} {x2 : Int32} {ufirstFound : Int32} {ulatestFinding : Int32} (g2 : h 2 = (7, .inl [.ref 3, .ref 5, .ref 9, .ref 17, .ref 23, .ref 36, .ref 38, .int ufirstFound, .int ulatestFinding])) (q1 : V G mX7_cycle b 65 [some (.ref 2), some (.int x1), some (.int x2)] [.int x1, .ref 9] h Q) : V G mX7_cycle b 60 [some (.ref 2), some (.int x1), some (.int x2)] [] h Q := by
  refine V_aload_n dX7_cycle_60 rfl rfl ?_
  refine V_get (ci := 7) (j := 2) (C0 := RX7) (T := TX7) (N := 9) dX7_cycle_61 rfl g2 (by decide) (by decide) kf_X7_28 rfl ?_
  refine V_iload_n dX7_cycle_64 rfl rfl ?_
  exact V_sub (by exact (And.intro rfl (And.intro rfl (And.intro rfl True.intro)))) (q1)
theorem tX7_cycle_69 {G : gx} {b : bg} {h : ah} {Q : Option Value → ah → Prop} {x1 : Int32} {x2 : Int32} {ufirstFound : Int32} {ulatestFinding : Int32} (g2 : h 2 = (7, .inl [.ref 3, .ref 5, .ref 9, .ref 17, .ref 23, .ref 36, .ref 38, .int ufirstFound, .int ulatestFinding])) (q1 : V G mX7_cycle b 74 [some (.ref 2), some (.int x1), some (.int x2)] [.int x1, .ref 9] h Q) : V G mX7_cycle b 69 [some (.ref 2), some (.int x1), some (.int x2)] [] h Q := by
  refine V_aload_n dX7_cycle_69 rfl rfl ?_
  refine V_get (ci := 7) (j := 2) (C0 := RX7) (T := TX7) (N := 9) dX7_cycle_70 rfl g2 (by decide) (by decide) kf_X7_28 rfl ?_
  refine V_iload_n dX7_cycle_73 rfl rfl ?_
  exact V_sub (by exact (And.intro rfl (And.intro rfl (And.intro rfl True.intro)))) (q1)
theorem tX7_cycle_78 {G : gx} {b : bg} {h : ah} {Q : Option Value → ah → Prop} {x1 : Int32} {x2 : Int32} (q1 : Q (some (.int (-2 : Int32))) h) : V G mX7_cycle b 78 [some (.ref 2), some (.int x1), some (.int x2)] [] h Q := by
  refine V_bipush dX7_cycle_78 bp_m2 ?_
  exact V_iret dX7_cycle_80 rfl (q1)
theorem tX7_cycle_68 {G : gx} {b : bg} {h : ah} {Q : Option Value → ah → Prop} {x1 : Int32} {x2 : Int32} {s0 : Int32} (q1 : Q (some (.int s0)) h) : V G mX7_cycle b 68 [some (.ref 2), some (.int x1), some (.int x2)] [.int s0] h Q := by
  exact V_iret dX7_cycle_68 rfl (q1)
theorem tX7_cycle_77 {G : gx} {b : bg} {h : ah} {Q : Option Value → ah → Prop} {x1 : Int32} {x2 : Int32} {s0 : Int32} (q1 : Q (some (.int s0)) h) : V G mX7_cycle b 77 [some (.ref 2), some (.int x1), some (.int x2)] [.int s0] h Q := by
  exact V_iret dX7_cycle_77 rfl (q1)
theorem cX7_cycle_4 {G : gx} {d mc ms cc zz d2 mc2 ms2 : Nat} {L : List (Option Value)} {S : List Value} {h : ah} {Q Q2 : Option Value → ah → Prop} {k : Nat} {fs : List Value} (hM : Ct G mX2_isRight d2 mc2 ms2 (.ref (k + 2) :: []) h Q2) (hc : h (k + 2) = (2, .inl fs)) (hdd : d2 < d ∧ d ≤ 9) (hrm : (S.map fun v => v.category).sum ≤ 8) (hf : cc + mc2 ≤ mc ∧ zz + ms2 ≤ ms) (kk : ∀ r h2, Q2 r h2 → V G mX7_cycle (d, mc, ms, cc + mc2, zz + ms2) 7 L (r.toList ++ S) h2 Q) : V G mX7_cycle (d, mc, ms, cc, zz) 4 L (.ref (k + 2) :: S) h Q := V_callVN (ci := 2) (T := TX2) (N := 14) hM dX7_cycle_4 ⟨km_X7_139, ki_X2_isRight, ks_X2_isRight⟩ cw_X2_isRight rfl hc (by decide) hdd rfl rfl hrm hf kk
theorem cX7_cycle_22 {G : gx} {d mc ms cc zz d2 mc2 ms2 : Nat} {L : List (Option Value)} {S : List Value} {h : ah} {Q Q2 : Option Value → ah → Prop} {k : Nat} {fs : List Value} (hM : Ct G mX2_howManyCycles d2 mc2 ms2 (.ref (k + 2) :: []) h Q2) (hc : h (k + 2) = (2, .inl fs)) (hdd : d2 < d ∧ d ≤ 9) (hrm : (S.map fun v => v.category).sum ≤ 8) (hf : cc + mc2 ≤ mc ∧ zz + ms2 ≤ ms) (kk : ∀ r h2, Q2 r h2 → V G mX7_cycle (d, mc, ms, cc + mc2, zz + ms2) 25 L (r.toList ++ S) h2 Q) : V G mX7_cycle (d, mc, ms, cc, zz) 22 L (.ref (k + 2) :: S) h Q := V_callVN (ci := 2) (T := TX2) (N := 14) hM dX7_cycle_22 ⟨km_X7_159, ki_X2_howManyCycles, ks_X2_howManyCycles⟩ cw_X2_howManyCycles rfl hc (by decide) hdd rfl rfl hrm hf kk
theorem cX7_cycle_65 {G : gx} {d mc ms cc zz d2 mc2 ms2 : Nat} {L : List (Option Value)} {S : List Value} {h : ah} {Q Q2 : Option Value → ah → Prop} {k : Nat} {fs : List Value} {a0 : Value} (hM : Ct G mX2_leastOfCycle d2 mc2 ms2 (.ref (k + 2) :: [a0]) h Q2) (hc : h (k + 2) = (2, .inl fs)) (hdd : d2 < d ∧ d ≤ 9) (hrm : (S.map fun v => v.category).sum ≤ 8) (hf : cc + mc2 ≤ mc ∧ zz + ms2 ≤ ms) (kk : ∀ r h2, Q2 r h2 → V G mX7_cycle (d, mc, ms, cc + mc2, zz + ms2) 68 L (r.toList ++ S) h2 Q) : V G mX7_cycle (d, mc, ms, cc, zz) 65 L (a0 :: .ref (k + 2) :: S) h Q := V_callVN (ci := 2) (T := TX2) (N := 14) hM dX7_cycle_65 ⟨km_X7_165, ki_X2_leastOfCycle, ks_X2_leastOfCycle⟩ cw_X2_leastOfCycle rfl hc (by decide) hdd rfl rfl hrm hf kk
theorem cX7_cycle_74 {G : gx} {d mc ms cc zz d2 mc2 ms2 : Nat} {L : List (Option Value)} {S : List Value} {h : ah} {Q Q2 : Option Value → ah → Prop} {k : Nat} {fs : List Value} {a0 : Value} (hM : Ct G mX2_wordsOfCycle d2 mc2 ms2 (.ref (k + 2) :: [a0]) h Q2) (hc : h (k + 2) = (2, .inl fs)) (hdd : d2 < d ∧ d ≤ 9) (hrm : (S.map fun v => v.category).sum ≤ 8) (hf : cc + mc2 ≤ mc ∧ zz + ms2 ≤ ms) (kk : ∀ r h2, Q2 r h2 → V G mX7_cycle (d, mc, ms, cc + mc2, zz + ms2) 77 L (r.toList ++ S) h2 Q) : V G mX7_cycle (d, mc, ms, cc, zz) 74 L (a0 :: .ref (k + 2) :: S) h Q := V_callVN (ci := 2) (T := TX2) (N := 14) hM dX7_cycle_74 ⟨km_X7_168, ki_X2_wordsOfCycle, ks_X2_wordsOfCycle⟩ cw_X2_wordsOfCycle rfl hc (by decide) hdd rfl rfl hrm hf kk
theorem tX7_join_0 {G : gx} {b : bg} {h : ah} {Q : Option Value → ah → Prop} {ufirstFound : Int32} {ulatestFinding : Int32} (g2 : h 2 = (7, .inl [.ref 3, .ref 5, .ref 9, .ref 17, .ref 23, .ref 36, .ref 38, .int ufirstFound, .int ulatestFinding])) (q1 : V G mX7_join b 4 [some (.ref 2)] [.ref 9] h Q) : V G mX7_join b 0 [some (.ref 2)] [] h Q := by
  refine V_aload_n dX7_join_0 rfl rfl ?_
  refine V_get (ci := 7) (j := 2) (C0 := RX7) (T := TX7) (N := 9) dX7_join_1 rfl g2 (by decide) (by decide) kf_X7_28 rfl ?_
  exact V_sub (by exact (And.intro rfl True.intro)) (q1)
theorem tX7_join_7 {G : gx} {b : bg} {h : ah} {Q : Option Value → ah → Prop} {s0 : Int32} {ufirstFound : Int32} {ulatestFinding : Int32} (g2 : h 2 = (7, .inl [.ref 3, .ref 5, .ref 9, .ref 17, .ref 23, .ref 36, .ref 38, .int ufirstFound, .int ulatestFinding])) (q1 : (s0 = (0 : Int32)) → Q (some (.int (-3 : Int32))) h) (q2 : (¬ s0 = (0 : Int32)) → V G mX7_join b 14 [some (.ref 2)] [.ref 9] h Q) : V G mX7_join b 7 [some (.ref 2)] [.int s0] h Q := by
  refine V_if_eq (t := 20) dX7_join_7 (by decide) (fun z1 => ?_) (fun z1 => ?_)
  ·
    refine V_bipush dX7_join_20 bp_m3 ?_
    exact V_iret dX7_join_22 rfl (q1 z1)
  ·
    refine V_aload_n dX7_join_10 rfl rfl ?_
    refine V_get (ci := 7) (j := 2) (C0 := RX7) (T := TX7) (N := 9) dX7_join_11 rfl g2 (by decide) (by decide) kf_X7_28 rfl ?_
    exact V_sub (by exact (And.intro rfl True.intro)) (q2 z1)
theorem tX7_join_17 {G : gx} {b : bg} {h : ah} {Q : Option Value → ah → Prop} {s0 : Int32} (q1 : Q (some (.int s0)) h) : V G mX7_join b 17 [some (.ref 2)] [.int s0] h Q := by
  refine V_goto (t := 22) dX7_join_17 (by decide) ?_
  exact V_iret dX7_join_22 rfl (q1)
theorem cX7_join_4 {G : gx} {d mc ms cc zz d2 mc2 ms2 : Nat} {L : List (Option Value)} {S : List Value} {h : ah} {Q Q2 : Option Value → ah → Prop} {k : Nat} {fs : List Value} (hM : Ct G mX2_isRight d2 mc2 ms2 (.ref (k + 2) :: []) h Q2) (hc : h (k + 2) = (2, .inl fs)) (hdd : d2 < d ∧ d ≤ 9) (hrm : (S.map fun v => v.category).sum ≤ 8) (hf : cc + mc2 ≤ mc ∧ zz + ms2 ≤ ms) (kk : ∀ r h2, Q2 r h2 → V G mX7_join (d, mc, ms, cc + mc2, zz + ms2) 7 L (r.toList ++ S) h2 Q) : V G mX7_join (d, mc, ms, cc, zz) 4 L (.ref (k + 2) :: S) h Q := V_callVN (ci := 2) (T := TX2) (N := 14) hM dX7_join_4 ⟨km_X7_139, ki_X2_isRight, ks_X2_isRight⟩ cw_X2_isRight rfl hc (by decide) hdd rfl rfl hrm hf kk
theorem cX7_join_14 {G : gx} {d mc ms cc zz d2 mc2 ms2 : Nat} {L : List (Option Value)} {S : List Value} {h : ah} {Q Q2 : Option Value → ah → Prop} {k : Nat} {fs : List Value} (hM : Ct G mX2_joinCycles d2 mc2 ms2 (.ref (k + 2) :: []) h Q2) (hc : h (k + 2) = (2, .inl fs)) (hdd : d2 < d ∧ d ≤ 9) (hrm : (S.map fun v => v.category).sum ≤ 8) (hf : cc + mc2 ≤ mc ∧ zz + ms2 ≤ ms) (kk : ∀ r h2, Q2 r h2 → V G mX7_join (d, mc, ms, cc + mc2, zz + ms2) 17 L (r.toList ++ S) h2 Q) : V G mX7_join (d, mc, ms, cc, zz) 14 L (.ref (k + 2) :: S) h Q := V_callVN (ci := 2) (T := TX2) (N := 14) hM dX7_join_14 ⟨km_X7_171, ki_X2_joinCycles, ks_X2_joinCycles⟩ cw_X2_joinCycles rfl hc (by decide) hdd rfl rfl hrm hf kk
theorem tX7_round_0 {G : gx} {b : bg} {h : ah} {Q : Option Value → ah → Prop} {x1 : Int32} (q1 : V G mX7_round b 1 [some (.ref 2), some (.int x1)] [.int x1] h Q) : V G mX7_round b 0 [some (.ref 2), some (.int x1)] [] h Q := by
  refine V_iload_n dX7_round_0 rfl rfl ?_
  exact V_sub (by exact (And.intro rfl (And.intro rfl True.intro))) (q1)
theorem tX7_round_28 {G : gx} {b : bg} {h : ah} {Q : Option Value → ah → Prop} {x1 : Int32} {ufirstFound : Int32} {ulatestFinding : Int32} (g2 : h 2 = (7, .inl [.ref 3, .ref 5, .ref 9, .ref 17, .ref 23, .ref 36, .ref 38, .int ufirstFound, .int ulatestFinding])) (q1 : V G mX7_round b 32 [some (.ref 2), some (.int x1)] [.ref 17] h Q) : V G mX7_round b 28 [some (.ref 2), some (.int x1)] [] h Q := by
  refine V_aload_n dX7_round_28 rfl rfl ?_
  refine V_get (ci := 7) (j := 3) (C0 := RX7) (T := TX7) (N := 9) dX7_round_29 rfl g2 (by decide) (by decide) kf_X7_35 rfl ?_
  exact V_sub (by exact (And.intro rfl (And.intro rfl True.intro))) (q1)
theorem tX7_round_43 {G : gx} {b : bg} {h : ah} {Q : Option Value → ah → Prop} {x1 : Int32} {ufirstFound : Int32} {ulatestFinding : Int32} (g2 : h 2 = (7, .inl [.ref 3, .ref 5, .ref 9, .ref 17, .ref 23, .ref 36, .ref 38, .int ufirstFound, .int ulatestFinding])) (q1 : V G mX7_round b 47 [some (.ref 2), some (.int x1)] [.ref 17] h Q) : V G mX7_round b 43 [some (.ref 2), some (.int x1)] [] h Q := by
  refine V_aload_n dX7_round_43 rfl rfl ?_
  refine V_get (ci := 7) (j := 3) (C0 := RX7) (T := TX7) (N := 9) dX7_round_44 rfl g2 (by decide) (by decide) kf_X7_35 rfl ?_
  exact V_sub (by exact (And.intro rfl (And.intro rfl True.intro))) (q1)
theorem tX7_round_58 {G : gx} {b : bg} {h : ah} {Q : Option Value → ah → Prop} {x1 : Int32} {ufirstFound : Int32} {ulatestFinding : Int32} (g2 : h 2 = (7, .inl [.ref 3, .ref 5, .ref 9, .ref 17, .ref 23, .ref 36, .ref 38, .int ufirstFound, .int ulatestFinding])) (q1 : V G mX7_round b 62 [some (.ref 2), some (.int x1)] [.ref 9] h Q) : V G mX7_round b 58 [some (.ref 2), some (.int x1)] [] h Q := by
  refine V_aload_n dX7_round_58 rfl rfl ?_
  refine V_get (ci := 7) (j := 2) (C0 := RX7) (T := TX7) (N := 9) dX7_round_59 rfl g2 (by decide) (by decide) kf_X7_28 rfl ?_
  exact V_sub (by exact (And.intro rfl (And.intro rfl True.intro))) (q1)
theorem tX7_round_104 {G : gx} {b : bg} {h : ah} {Q : Option Value → ah → Prop} {x1 : Int32} (q1 : Q (some (.int (-2 : Int32))) h) : V G mX7_round b 104 [some (.ref 2), some (.int x1)] [] h Q := by
  refine V_bipush dX7_round_104 bp_m2 ?_
  exact V_iret dX7_round_106 rfl (q1)
theorem tX7_round_35 {G : gx} {b : bg} {h : ah} {Q : Option Value → ah → Prop} {x1 : Int32} {ufirstFound : Int32} {ulatestFinding : Int32} {wletters : Int32} {wlength : Int32} {wall : Int32} {whigh : Int32} (g2 : h 2 = (7, .inl [.ref 3, .ref 5, .ref 9, .ref 17, .ref 23, .ref 36, .ref 38, .int ufirstFound, .int ulatestFinding])) (g3 : h 3 = (6, .inl [.ref 4, .int wletters, .int wlength, .int wall, .int whigh])) (q1 : Q (some (.int wall)) h) : V G mX7_round b 35 [some (.ref 2), some (.int x1)] [] h Q := by
  refine V_aload_n dX7_round_35 rfl rfl ?_
  refine V_get (ci := 7) (j := 0) (C0 := RX7) (T := TX7) (N := 9) dX7_round_36 rfl g2 (by decide) (by decide) kf_X7_10 rfl ?_
  refine V_getN (ci := 6) (j := 3) (C0 := RX6) (T := TX6) (N := 5) dX7_round_39 rfl g3 (by decide) (by decide) kf_X7_101 rfl ?_
  exact V_iret dX7_round_42 rfl (q1)
theorem tX7_round_50 {G : gx} {b : bg} {h : ah} {Q : Option Value → ah → Prop} {x1 : Int32} {ufirstFound : Int32} {ulatestFinding : Int32} {wletters : Int32} {wlength : Int32} {wall : Int32} {whigh : Int32} (g2 : h 2 = (7, .inl [.ref 3, .ref 5, .ref 9, .ref 17, .ref 23, .ref 36, .ref 38, .int ufirstFound, .int ulatestFinding])) (g3 : h 3 = (6, .inl [.ref 4, .int wletters, .int wlength, .int wall, .int whigh])) (q1 : Q (some (.int wall)) h) : V G mX7_round b 50 [some (.ref 2), some (.int x1)] [] h Q := by
  refine V_aload_n dX7_round_50 rfl rfl ?_
  refine V_get (ci := 7) (j := 0) (C0 := RX7) (T := TX7) (N := 9) dX7_round_51 rfl g2 (by decide) (by decide) kf_X7_10 rfl ?_
  refine V_getN (ci := 6) (j := 3) (C0 := RX6) (T := TX6) (N := 5) dX7_round_54 rfl g3 (by decide) (by decide) kf_X7_101 rfl ?_
  exact V_iret dX7_round_57 rfl (q1)
theorem tX7_round_65 {G : gx} {b : bg} {h : ah} {Q : Option Value → ah → Prop} {x1 : Int32} {s0 : Int32} {ufirstFound : Int32} {ulatestFinding : Int32} (g2 : h 2 = (7, .inl [.ref 3, .ref 5, .ref 9, .ref 17, .ref 23, .ref 36, .ref 38, .int ufirstFound, .int ulatestFinding])) (q1 : (s0 = (0 : Int32)) → Q (some (.int (-3 : Int32))) h) (q2 : (¬ s0 = (0 : Int32)) → V G mX7_round b 72 [some (.ref 2), some (.int x1)] [.ref 9] h Q) : V G mX7_round b 65 [some (.ref 2), some (.int x1)] [.int s0] h Q := by
  refine V_if_eq (t := 79) dX7_round_65 (by decide) (fun z1 => ?_) (fun z1 => ?_)
  ·
    refine V_bipush dX7_round_79 bp_m3 ?_
    exact V_iret dX7_round_81 rfl (q1 z1)
  ·
    refine V_aload_n dX7_round_68 rfl rfl ?_
    refine V_get (ci := 7) (j := 2) (C0 := RX7) (T := TX7) (N := 9) dX7_round_69 rfl g2 (by decide) (by decide) kf_X7_28 rfl ?_
    exact V_sub (by exact (And.intro rfl (And.intro rfl True.intro))) (q2 z1)
theorem tX7_round_75 {G : gx} {b : bg} {h : ah} {Q : Option Value → ah → Prop} {x1 : Int32} {s0 : Int32} {ufirstFound : Int32} {ulatestFinding : Int32} (g2 : h 2 = (7, .inl [.ref 3, .ref 5, .ref 9, .ref 17, .ref 23, .ref 36, .ref 38, .int ufirstFound, .int ulatestFinding])) (q1 : (s0 = (1 : Int32)) → V G mX7_round b 90 [some (.ref 2), some (.int x1)] [.ref 9, .ref 17] h Q) (q2 : (¬ s0 = (1 : Int32)) → Q (some (.int (-3 : Int32))) h) : V G mX7_round b 75 [some (.ref 2), some (.int x1)] [.int s0] h Q := by
  refine V_iconst dX7_round_75 ic_1 ?_
  refine V_icmp_eq (t := 82) dX7_round_76 (by decide) (fun z1 => ?_) (fun z1 => ?_)
  ·
    refine V_aload_n dX7_round_82 rfl rfl ?_
    refine V_get (ci := 7) (j := 3) (C0 := RX7) (T := TX7) (N := 9) dX7_round_83 rfl g2 (by decide) (by decide) kf_X7_35 rfl ?_
    refine V_aload_n dX7_round_86 rfl rfl ?_
    refine V_get (ci := 7) (j := 2) (C0 := RX7) (T := TX7) (N := 9) dX7_round_87 rfl g2 (by decide) (by decide) kf_X7_28 rfl ?_
    exact V_sub (by exact (And.intro rfl (And.intro rfl True.intro))) (q1 z1)
  ·
    refine V_bipush dX7_round_79 bp_m3 ?_
    exact V_iret dX7_round_81 rfl (q2 z1)
theorem tX7_round_96 {G : gx} {b : bg} {h : ah} {Q : Option Value → ah → Prop} {x1 : Int32} {ufirstFound : Int32} {ulatestFinding : Int32} {wletters : Int32} {wlength : Int32} {wall : Int32} {whigh : Int32} (g2 : h 2 = (7, .inl [.ref 3, .ref 5, .ref 9, .ref 17, .ref 23, .ref 36, .ref 38, .int ufirstFound, .int ulatestFinding])) (g3 : h 3 = (6, .inl [.ref 4, .int wletters, .int wlength, .int wall, .int whigh])) (q1 : Q (some (.int wall)) h) : V G mX7_round b 96 [some (.ref 2), some (.int x1)] [] h Q := by
  refine V_aload_n dX7_round_96 rfl rfl ?_
  refine V_get (ci := 7) (j := 0) (C0 := RX7) (T := TX7) (N := 9) dX7_round_97 rfl g2 (by decide) (by decide) kf_X7_10 rfl ?_
  refine V_getN (ci := 6) (j := 3) (C0 := RX6) (T := TX6) (N := 5) dX7_round_100 rfl g3 (by decide) (by decide) kf_X7_101 rfl ?_
  exact V_iret dX7_round_103 rfl (q1)
theorem cX7_round_32 {G : gx} {d mc ms cc zz d2 mc2 ms2 : Nat} {L : List (Option Value)} {S : List Value} {h : ah} {Q Q2 : Option Value → ah → Prop} {k : Nat} {fs : List Value} (hM : Ct G mX4_becomeLeast d2 mc2 ms2 (.ref (k + 2) :: []) h Q2) (hc : h (k + 2) = (4, .inl fs)) (hdd : d2 < d ∧ d ≤ 9) (hrm : (S.map fun v => v.category).sum ≤ 8) (hf : cc + mc2 ≤ mc ∧ zz + ms2 ≤ ms) (kk : ∀ r h2, Q2 r h2 → V G mX7_round (d, mc, ms, cc + mc2, zz + ms2) 35 L (r.toList ++ S) h2 Q) : V G mX7_round (d, mc, ms, cc, zz) 32 L (.ref (k + 2) :: S) h Q := V_callVN (ci := 4) (T := TX4) (N := 8) hM dX7_round_32 ⟨km_X7_174, ki_X4_becomeLeast, ks_X4_becomeLeast⟩ cw_X4_becomeLeast rfl hc (by decide) hdd rfl rfl hrm hf kk
theorem cX7_round_47 {G : gx} {d mc ms cc zz d2 mc2 ms2 : Nat} {L : List (Option Value)} {S : List Value} {h : ah} {Q Q2 : Option Value → ah → Prop} {k : Nat} {fs : List Value} (hM : Ct G mX4_becomeGreedy d2 mc2 ms2 (.ref (k + 2) :: []) h Q2) (hc : h (k + 2) = (4, .inl fs)) (hdd : d2 < d ∧ d ≤ 9) (hrm : (S.map fun v => v.category).sum ≤ 8) (hf : cc + mc2 ≤ mc ∧ zz + ms2 ≤ ms) (kk : ∀ r h2, Q2 r h2 → V G mX7_round (d, mc, ms, cc + mc2, zz + ms2) 50 L (r.toList ++ S) h2 Q) : V G mX7_round (d, mc, ms, cc, zz) 47 L (.ref (k + 2) :: S) h Q := V_callVN (ci := 4) (T := TX4) (N := 8) hM dX7_round_47 ⟨km_X7_177, ki_X4_becomeGreedy, ks_X4_becomeGreedy⟩ cw_X4_becomeGreedy rfl hc (by decide) hdd rfl rfl hrm hf kk
theorem cX7_round_62 {G : gx} {d mc ms cc zz d2 mc2 ms2 : Nat} {L : List (Option Value)} {S : List Value} {h : ah} {Q Q2 : Option Value → ah → Prop} {k : Nat} {fs : List Value} (hM : Ct G mX2_isRight d2 mc2 ms2 (.ref (k + 2) :: []) h Q2) (hc : h (k + 2) = (2, .inl fs)) (hdd : d2 < d ∧ d ≤ 9) (hrm : (S.map fun v => v.category).sum ≤ 8) (hf : cc + mc2 ≤ mc ∧ zz + ms2 ≤ ms) (kk : ∀ r h2, Q2 r h2 → V G mX7_round (d, mc, ms, cc + mc2, zz + ms2) 65 L (r.toList ++ S) h2 Q) : V G mX7_round (d, mc, ms, cc, zz) 62 L (.ref (k + 2) :: S) h Q := V_callVN (ci := 2) (T := TX2) (N := 14) hM dX7_round_62 ⟨km_X7_139, ki_X2_isRight, ks_X2_isRight⟩ cw_X2_isRight rfl hc (by decide) hdd rfl rfl hrm hf kk
theorem cX7_round_72 {G : gx} {d mc ms cc zz d2 mc2 ms2 : Nat} {L : List (Option Value)} {S : List Value} {h : ah} {Q Q2 : Option Value → ah → Prop} {k : Nat} {fs : List Value} (hM : Ct G mX2_howManyCycles d2 mc2 ms2 (.ref (k + 2) :: []) h Q2) (hc : h (k + 2) = (2, .inl fs)) (hdd : d2 < d ∧ d ≤ 9) (hrm : (S.map fun v => v.category).sum ≤ 8) (hf : cc + mc2 ≤ mc ∧ zz + ms2 ≤ ms) (kk : ∀ r h2, Q2 r h2 → V G mX7_round (d, mc, ms, cc + mc2, zz + ms2) 75 L (r.toList ++ S) h2 Q) : V G mX7_round (d, mc, ms, cc, zz) 72 L (.ref (k + 2) :: S) h Q := V_callVN (ci := 2) (T := TX2) (N := 14) hM dX7_round_72 ⟨km_X7_159, ki_X2_howManyCycles, ks_X2_howManyCycles⟩ cw_X2_howManyCycles rfl hc (by decide) hdd rfl rfl hrm hf kk
theorem cX7_round_90 {G : gx} {d mc ms cc zz d2 mc2 ms2 : Nat} {L : List (Option Value)} {S : List Value} {h : ah} {Q Q2 : Option Value → ah → Prop} {k : Nat} {fs : List Value} (hM : Ct G mX2_leads d2 mc2 ms2 (.ref (k + 2) :: []) h Q2) (hc : h (k + 2) = (2, .inl fs)) (hdd : d2 < d ∧ d ≤ 9) (hrm : (S.map fun v => v.category).sum ≤ 8) (hf : cc + mc2 ≤ mc ∧ zz + ms2 ≤ ms) (kk : ∀ r h2, Q2 r h2 → V G mX7_round (d, mc, ms, cc + mc2, zz + ms2) 93 L (r.toList ++ S) h2 Q) : V G mX7_round (d, mc, ms, cc, zz) 90 L (.ref (k + 2) :: S) h Q := V_callVN (ci := 2) (T := TX2) (N := 14) hM dX7_round_90 ⟨km_X7_180, ki_X2_leads, ks_X2_leads⟩ cw_X2_leads rfl hc (by decide) hdd rfl rfl hrm hf kk
theorem cX7_round_93 {G : gx} {d mc ms cc zz d2 mc2 ms2 : Nat} {L : List (Option Value)} {S : List Value} {h : ah} {Q Q2 : Option Value → ah → Prop} {k : Nat} {fs : List Value} {a0 : Value} (hM : Ct G mX4_becomeCycle d2 mc2 ms2 (.ref (k + 2) :: [a0]) h Q2) (hc : h (k + 2) = (4, .inl fs)) (hdd : d2 < d ∧ d ≤ 9) (hrm : (S.map fun v => v.category).sum ≤ 8) (hf : cc + mc2 ≤ mc ∧ zz + ms2 ≤ ms) (kk : ∀ r h2, Q2 r h2 → V G mX7_round (d, mc, ms, cc + mc2, zz + ms2) 96 L (r.toList ++ S) h2 Q) : V G mX7_round (d, mc, ms, cc, zz) 93 L (a0 :: .ref (k + 2) :: S) h Q := V_callVN (ci := 4) (T := TX4) (N := 8) hM dX7_round_93 ⟨km_X7_184, ki_X4_becomeCycle, ks_X4_becomeCycle⟩ cw_X4_becomeCycle rfl hc (by decide) hdd rfl rfl hrm hf kk
theorem tX7_letter_0 {G : gx} {b : bg} {h : ah} {Q : Option Value → ah → Prop} {x1 : Int32} {ufirstFound : Int32} {ulatestFinding : Int32} (g2 : h 2 = (7, .inl [.ref 3, .ref 5, .ref 9, .ref 17, .ref 23, .ref 36, .ref 38, .int ufirstFound, .int ulatestFinding])) (q1 : V G mX7_letter b 5 [some (.ref 2), some (.int x1)] [.int x1, .ref 17] h Q) : V G mX7_letter b 0 [some (.ref 2), some (.int x1)] [] h Q := by
  refine V_aload_n dX7_letter_0 rfl rfl ?_
  refine V_get (ci := 7) (j := 3) (C0 := RX7) (T := TX7) (N := 9) dX7_letter_1 rfl g2 (by decide) (by decide) kf_X7_35 rfl ?_
  refine V_iload_n dX7_letter_4 rfl rfl ?_
  exact V_sub (by exact (And.intro rfl (And.intro rfl True.intro))) (q1)
theorem tX7_letter_8 {G : gx} {b : bg} {h : ah} {Q : Option Value → ah → Prop} {x1 : Int32} {s0 : Int32} {ufirstFound : Int32} {ulatestFinding : Int32} {okind : Int32} {ofirstMatch : Int32} {olet : Nat → Int32} (g2 : h 2 = (7, .inl [.ref 3, .ref 5, .ref 9, .ref 17, .ref 23, .ref 36, .ref 38, .int ufirstFound, .int ulatestFinding])) (g17 : h 17 = (4, .inl [.ref 3, .ref 18, .ref 19, .int okind, .ref 20, .ref 21, .ref 22, .int ofirstMatch])) (g18 : h 18 = (1, .inr (20000, .inl olet))) (q1 : (s0 = (0 : Int32)) → Q (some (.int (-2 : Int32))) h) (q2 : (¬ s0 = (0 : Int32)) → vp_in x1 20000) (q3 : (¬ s0 = (0 : Int32)) → Q (some (.int (olet x1.toNatClampNeg))) h) : V G mX7_letter b 8 [some (.ref 2), some (.int x1)] [.int s0] h Q := by
  refine V_if_eq (t := 23) dX7_letter_8 (by decide) (fun z1 => ?_) (fun z1 => ?_)
  ·
    refine V_bipush dX7_letter_23 bp_m2 ?_
    exact V_iret dX7_letter_25 rfl (q1 z1)
  ·
    refine V_aload_n dX7_letter_11 rfl rfl ?_
    refine V_get (ci := 7) (j := 3) (C0 := RX7) (T := TX7) (N := 9) dX7_letter_12 rfl g2 (by decide) (by decide) kf_X7_35 rfl ?_
    refine V_getN (ci := 4) (j := 1) (C0 := RX4) (T := TX4) (N := 8) dX7_letter_15 rfl g17 (by decide) (by decide) kf_X7_191 rfl ?_
    refine V_iload_n dX7_letter_18 rfl rfl ?_
    refine V_bald dX7_letter_19 g18 (q2 z1) ?_
    refine V_goto (t := 25) dX7_letter_20 (by decide) ?_
    exact V_iret dX7_letter_25 rfl (q3 z1)
theorem cX7_letter_5 {G : gx} {d mc ms cc zz d2 mc2 ms2 : Nat} {L : List (Option Value)} {S : List Value} {h : ah} {Q Q2 : Option Value → ah → Prop} {k : Nat} {fs : List Value} {a0 : Value} (hM : Ct G mX4_isPlace d2 mc2 ms2 (.ref (k + 2) :: [a0]) h Q2) (hc : h (k + 2) = (4, .inl fs)) (hdd : d2 < d ∧ d ≤ 9) (hrm : (S.map fun v => v.category).sum ≤ 8) (hf : cc + mc2 ≤ mc ∧ zz + ms2 ≤ ms) (kk : ∀ r h2, Q2 r h2 → V G mX7_letter (d, mc, ms, cc + mc2, zz + ms2) 8 L (r.toList ++ S) h2 Q) : V G mX7_letter (d, mc, ms, cc, zz) 5 L (a0 :: .ref (k + 2) :: S) h Q := V_callVN (ci := 4) (T := TX4) (N := 8) hM dX7_letter_5 ⟨km_X7_188, ki_X4_isPlace, ks_X4_isPlace⟩ cw_X4_isPlace rfl hc (by decide) hdd rfl rfl hrm hf kk
theorem tX7_place_0 {G : gx} {b : bg} {h : ah} {Q : Option Value → ah → Prop} {x1 : Int32} {ufirstFound : Int32} {ulatestFinding : Int32} (g2 : h 2 = (7, .inl [.ref 3, .ref 5, .ref 9, .ref 17, .ref 23, .ref 36, .ref 38, .int ufirstFound, .int ulatestFinding])) (q1 : V G mX7_place b 5 [some (.ref 2), some (.int x1)] [.int x1, .ref 3] h Q) : V G mX7_place b 0 [some (.ref 2), some (.int x1)] [] h Q := by
  refine V_aload_n dX7_place_0 rfl rfl ?_
  refine V_get (ci := 7) (j := 0) (C0 := RX7) (T := TX7) (N := 9) dX7_place_1 rfl g2 (by decide) (by decide) kf_X7_10 rfl ?_
  refine V_iload_n dX7_place_4 rfl rfl ?_
  exact V_sub (by exact (And.intro rfl (And.intro rfl True.intro))) (q1)
theorem tX7_place_8 {G : gx} {b : bg} {h : ah} {Q : Option Value → ah → Prop} {x1 : Int32} {s0 : Int32} {ufirstFound : Int32} {ulatestFinding : Int32} (g2 : h 2 = (7, .inl [.ref 3, .ref 5, .ref 9, .ref 17, .ref 23, .ref 36, .ref 38, .int ufirstFound, .int ulatestFinding])) (q1 : (¬ s0 = (0 : Int32)) → V G mX7_place b 18 [some (.ref 2), some (.int x1)] [.ref 17] h Q) (q2 : (s0 = (0 : Int32)) → Q (some (.int (-2 : Int32))) h) : V G mX7_place b 8 [some (.ref 2), some (.int x1)] [.int s0] h Q := by
  refine V_if_ne (t := 14) dX7_place_8 (by decide) (fun z1 => ?_) (fun z1 => ?_)
  ·
    refine V_aload_n dX7_place_14 rfl rfl ?_
    refine V_get (ci := 7) (j := 3) (C0 := RX7) (T := TX7) (N := 9) dX7_place_15 rfl g2 (by decide) (by decide) kf_X7_35 rfl ?_
    exact V_sub (by exact (And.intro rfl (And.intro rfl True.intro))) (q1 z1)
  ·
    refine V_bipush dX7_place_11 bp_m2 ?_
    exact V_iret dX7_place_13 rfl (q2 z1)
theorem tX7_place_21 {G : gx} {b : bg} {h : ah} {Q : Option Value → ah → Prop} {x1 : Int32} {s0 : Int32} {ufirstFound : Int32} {ulatestFinding : Int32} {okind : Int32} {ofirstMatch : Int32} {oplace : Nat → Int32} (g2 : h 2 = (7, .inl [.ref 3, .ref 5, .ref 9, .ref 17, .ref 23, .ref 36, .ref 38, .int ufirstFound, .int ulatestFinding])) (g17 : h 17 = (4, .inl [.ref 3, .ref 18, .ref 19, .int okind, .ref 20, .ref 21, .ref 22, .int ofirstMatch])) (g19 : h 19 = (0, .inr (20000, .inl oplace))) (q1 : (s0 = (0 : Int32)) → Q (some (.int (-3 : Int32))) h) (q2 : (¬ s0 = (0 : Int32)) → vp_in x1 20000) (q3 : (¬ s0 = (0 : Int32)) → Q (some (.int (oplace x1.toNatClampNeg))) h) : V G mX7_place b 21 [some (.ref 2), some (.int x1)] [.int s0] h Q := by
  refine V_if_eq (t := 36) dX7_place_21 (by decide) (fun z1 => ?_) (fun z1 => ?_)
  ·
    refine V_bipush dX7_place_36 bp_m3 ?_
    exact V_iret dX7_place_38 rfl (q1 z1)
  ·
    refine V_aload_n dX7_place_24 rfl rfl ?_
    refine V_get (ci := 7) (j := 3) (C0 := RX7) (T := TX7) (N := 9) dX7_place_25 rfl g2 (by decide) (by decide) kf_X7_35 rfl ?_
    refine V_getN (ci := 4) (j := 2) (C0 := RX4) (T := TX4) (N := 8) dX7_place_28 rfl g17 (by decide) (by decide) kf_X7_198 rfl ?_
    refine V_iload_n dX7_place_31 rfl rfl ?_
    refine V_iald dX7_place_32 g19 (q2 z1) ?_
    refine V_goto (t := 38) dX7_place_33 (by decide) ?_
    exact V_iret dX7_place_38 rfl (q3 z1)
theorem cX7_place_5 {G : gx} {d mc ms cc zz d2 mc2 ms2 : Nat} {L : List (Option Value)} {S : List Value} {h : ah} {Q Q2 : Option Value → ah → Prop} {k : Nat} {fs : List Value} {a0 : Value} (hM : Ct G mX6_has d2 mc2 ms2 (.ref (k + 2) :: [a0]) h Q2) (hc : h (k + 2) = (6, .inl fs)) (hdd : d2 < d ∧ d ≤ 9) (hrm : (S.map fun v => v.category).sum ≤ 8) (hf : cc + mc2 ≤ mc ∧ zz + ms2 ≤ ms) (kk : ∀ r h2, Q2 r h2 → V G mX7_place (d, mc, ms, cc + mc2, zz + ms2) 8 L (r.toList ++ S) h2 Q) : V G mX7_place (d, mc, ms, cc, zz) 5 L (a0 :: .ref (k + 2) :: S) h Q := V_callVN (ci := 6) (T := TX6) (N := 5) hM dX7_place_5 ⟨km_X7_81, ki_X6_has, ks_X6_has⟩ cw_X6_has rfl hc (by decide) hdd rfl rfl hrm hf kk
theorem cX7_place_18 {G : gx} {d mc ms cc zz d2 mc2 ms2 : Nat} {L : List (Option Value)} {S : List Value} {h : ah} {Q Q2 : Option Value → ah → Prop} {k : Nat} {fs : List Value} (hM : Ct G mX4_isThere d2 mc2 ms2 (.ref (k + 2) :: []) h Q2) (hc : h (k + 2) = (4, .inl fs)) (hdd : d2 < d ∧ d ≤ 9) (hrm : (S.map fun v => v.category).sum ≤ 8) (hf : cc + mc2 ≤ mc ∧ zz + ms2 ≤ ms) (kk : ∀ r h2, Q2 r h2 → V G mX7_place (d, mc, ms, cc + mc2, zz + ms2) 21 L (r.toList ++ S) h2 Q) : V G mX7_place (d, mc, ms, cc, zz) 18 L (.ref (k + 2) :: S) h Q := V_callVN (ci := 4) (T := TX4) (N := 8) hM dX7_place_18 ⟨km_X7_195, ki_X4_isThere, ks_X4_isThere⟩ cw_X4_isThere rfl hc (by decide) hdd rfl rfl hrm hf kk
theorem tX7_way_0 {G : gx} {b : bg} {h : ah} {Q : Option Value → ah → Prop} {x1 : Int32} {x2 : Int32} {ufirstFound : Int32} {ulatestFinding : Int32} (g2 : h 2 = (7, .inl [.ref 3, .ref 5, .ref 9, .ref 17, .ref 23, .ref 36, .ref 38, .int ufirstFound, .int ulatestFinding])) (q1 : V G mX7_way b 5 [some (.ref 2), some (.int x1), some (.int x2)] [.int x1, .ref 17] h Q) : V G mX7_way b 0 [some (.ref 2), some (.int x1), some (.int x2)] [] h Q := by
  refine V_aload_n dX7_way_0 rfl rfl ?_
  refine V_get (ci := 7) (j := 3) (C0 := RX7) (T := TX7) (N := 9) dX7_way_1 rfl g2 (by decide) (by decide) kf_X7_35 rfl ?_
  refine V_iload_n dX7_way_4 rfl rfl ?_
  exact V_sub (by exact (And.intro rfl (And.intro rfl (And.intro rfl True.intro)))) (q1)
theorem tX7_way_8 {G : gx} {b : bg} {h : ah} {Q : Option Value → ah → Prop} {x1 : Int32} {x2 : Int32} {s0 : Int32} {ufirstFound : Int32} {ulatestFinding : Int32} (g2 : h 2 = (7, .inl [.ref 3, .ref 5, .ref 9, .ref 17, .ref 23, .ref 36, .ref 38, .int ufirstFound, .int ulatestFinding])) (q1 : (s0 = (0 : Int32)) → Q (some (.int (-2 : Int32))) h) (q2 : (¬ s0 = (0 : Int32)) → V G mX7_way b 16 [some (.ref 2), some (.int x1), some (.int x2)] [.int x2, .ref 17] h Q) : V G mX7_way b 8 [some (.ref 2), some (.int x1), some (.int x2)] [.int s0] h Q := by
  refine V_if_eq (t := 22) dX7_way_8 (by decide) (fun z1 => ?_) (fun z1 => ?_)
  ·
    refine V_bipush dX7_way_22 bp_m2 ?_
    exact V_iret dX7_way_24 rfl (q1 z1)
  ·
    refine V_aload_n dX7_way_11 rfl rfl ?_
    refine V_get (ci := 7) (j := 3) (C0 := RX7) (T := TX7) (N := 9) dX7_way_12 rfl g2 (by decide) (by decide) kf_X7_35 rfl ?_
    refine V_iload_n dX7_way_15 rfl rfl ?_
    exact V_sub (by exact (And.intro rfl (And.intro rfl (And.intro rfl True.intro)))) (q2 z1)
theorem tX7_way_19 {G : gx} {b : bg} {h : ah} {Q : Option Value → ah → Prop} {x1 : Int32} {x2 : Int32} {s0 : Int32} {ufirstFound : Int32} {ulatestFinding : Int32} {wletters : Int32} {wlength : Int32} {wall : Int32} {whigh : Int32} (g2 : h 2 = (7, .inl [.ref 3, .ref 5, .ref 9, .ref 17, .ref 23, .ref 36, .ref 38, .int ufirstFound, .int ulatestFinding])) (g3 : h 3 = (6, .inl [.ref 4, .int wletters, .int wlength, .int wall, .int whigh])) (q1 : (¬ s0 = (0 : Int32)) → (x2 < x1) → Q (some (.int ((x2 - x1) + wall))) h) (q2 : (¬ s0 = (0 : Int32)) → (¬ x2 < x1) → Q (some (.int (x2 - x1))) h) (q3 : (s0 = (0 : Int32)) → Q (some (.int (-2 : Int32))) h) : V G mX7_way b 19 [some (.ref 2), some (.int x1), some (.int x2)] [.int s0] h Q := by
  refine V_if_ne (t := 25) dX7_way_19 (by decide) (fun z1 => ?_) (fun z1 => ?_)
  ·
    refine V_iload_n dX7_way_25 rfl rfl ?_
    refine V_iload_n dX7_way_26 rfl rfl ?_
    refine V_icmp_gt (t := 36) dX7_way_27 (by decide) (fun z2 => ?_) (fun z2 => ?_)
    ·
      refine V_iload_n dX7_way_36 rfl rfl ?_
      refine V_iload_n dX7_way_37 rfl rfl ?_
      refine V_isub dX7_way_38 ?_
      refine V_aload_n dX7_way_39 rfl rfl ?_
      refine V_get (ci := 7) (j := 0) (C0 := RX7) (T := TX7) (N := 9) dX7_way_40 rfl g2 (by decide) (by decide) kf_X7_10 rfl ?_
      refine V_getN (ci := 6) (j := 3) (C0 := RX6) (T := TX6) (N := 5) dX7_way_43 rfl g3 (by decide) (by decide) kf_X7_101 rfl ?_
      refine V_iadd dX7_way_46 ?_
      exact V_iret dX7_way_47 rfl (q1 z1 z2)
    ·
      refine V_iload_n dX7_way_30 rfl rfl ?_
      refine V_iload_n dX7_way_31 rfl rfl ?_
      refine V_isub dX7_way_32 ?_
      refine V_goto (t := 47) dX7_way_33 (by decide) ?_
      exact V_iret dX7_way_47 rfl (q2 z1 z2)
  ·
    refine V_bipush dX7_way_22 bp_m2 ?_
    exact V_iret dX7_way_24 rfl (q3 z1)
theorem cX7_way_5 {G : gx} {d mc ms cc zz d2 mc2 ms2 : Nat} {L : List (Option Value)} {S : List Value} {h : ah} {Q Q2 : Option Value → ah → Prop} {k : Nat} {fs : List Value} {a0 : Value} (hM : Ct G mX4_isPlace d2 mc2 ms2 (.ref (k + 2) :: [a0]) h Q2) (hc : h (k + 2) = (4, .inl fs)) (hdd : d2 < d ∧ d ≤ 9) (hrm : (S.map fun v => v.category).sum ≤ 8) (hf : cc + mc2 ≤ mc ∧ zz + ms2 ≤ ms) (kk : ∀ r h2, Q2 r h2 → V G mX7_way (d, mc, ms, cc + mc2, zz + ms2) 8 L (r.toList ++ S) h2 Q) : V G mX7_way (d, mc, ms, cc, zz) 5 L (a0 :: .ref (k + 2) :: S) h Q := V_callVN (ci := 4) (T := TX4) (N := 8) hM dX7_way_5 ⟨km_X7_188, ki_X4_isPlace, ks_X4_isPlace⟩ cw_X4_isPlace rfl hc (by decide) hdd rfl rfl hrm hf kk
theorem cX7_way_16 {G : gx} {d mc ms cc zz d2 mc2 ms2 : Nat} {L : List (Option Value)} {S : List Value} {h : ah} {Q Q2 : Option Value → ah → Prop} {k : Nat} {fs : List Value} {a0 : Value} (hM : Ct G mX4_isPlace d2 mc2 ms2 (.ref (k + 2) :: [a0]) h Q2) (hc : h (k + 2) = (4, .inl fs)) (hdd : d2 < d ∧ d ≤ 9) (hrm : (S.map fun v => v.category).sum ≤ 8) (hf : cc + mc2 ≤ mc ∧ zz + ms2 ≤ ms) (kk : ∀ r h2, Q2 r h2 → V G mX7_way (d, mc, ms, cc + mc2, zz + ms2) 19 L (r.toList ++ S) h2 Q) : V G mX7_way (d, mc, ms, cc, zz) 16 L (a0 :: .ref (k + 2) :: S) h Q := V_callVN (ci := 4) (T := TX4) (N := 8) hM dX7_way_16 ⟨km_X7_188, ki_X4_isPlace, ks_X4_isPlace⟩ cw_X4_isPlace rfl hc (by decide) hdd rfl rfl hrm hf kk
theorem tX7_tape_0 {G : gx} {b : bg} {h : ah} {Q : Option Value → ah → Prop} {x1 : Int32} {x2 : Int32} {x3 : Int32} (q1 : V G mX7_tape b 1 [some (.ref 2), some (.int x1), some (.int x2), some (.int x3)] [.int x1] h Q) : V G mX7_tape b 0 [some (.ref 2), some (.int x1), some (.int x2), some (.int x3)] [] h Q := by
  refine V_iload_n dX7_tape_0 rfl rfl ?_
  exact V_sub (by exact (And.intro rfl (And.intro rfl (And.intro rfl (And.intro rfl True.intro))))) (q1)
theorem tX7_tape_4 {G : gx} {b : bg} {h : ah} {Q : Option Value → ah → Prop} {x1 : Int32} {x2 : Int32} {x3 : Int32} {s0 : Int32} (q1 : (s0 = (0 : Int32)) → Q (some (.int (-2 : Int32))) h) (q2 : (¬ s0 = (0 : Int32)) → V G mX7_tape b 8 [some (.ref 2), some (.int x1), some (.int x2), some (.int x3)] [.int x2] h Q) : V G mX7_tape b 4 [some (.ref 2), some (.int x1), some (.int x2), some (.int x3)] [.int s0] h Q := by
  refine V_if_eq (t := 21) dX7_tape_4 (by decide) (fun z1 => ?_) (fun z1 => ?_)
  ·
    refine V_bipush dX7_tape_21 bp_m2 ?_
    exact V_iret dX7_tape_23 rfl (q1 z1)
  ·
    refine V_iload_n dX7_tape_7 rfl rfl ?_
    exact V_sub (by exact (And.intro rfl (And.intro rfl (And.intro rfl (And.intro rfl True.intro))))) (q2 z1)
theorem tX7_tape_11 {G : gx} {b : bg} {h : ah} {Q : Option Value → ah → Prop} {x1 : Int32} {x2 : Int32} {x3 : Int32} {s0 : Int32} {ufirstFound : Int32} {ulatestFinding : Int32} {utape : Nat → Option Nat} {ta : Nat} (g2 : h 2 = (7, .inl [.ref 3, .ref 5, .ref 9, .ref 17, .ref 23, .ref 36, .ref 38, .int ufirstFound, .int ulatestFinding])) (g23 : h 23 = (4, .inr (4, .inr (.inr utape)))) (q1 : (s0 = (0 : Int32)) → Q (some (.int (-2 : Int32))) h) (q2 : (¬ s0 = (0 : Int32)) → (x3 ≤ (200 : Int32)) → ((0 : Int32) ≤ x3) → vp_in x1 4) (q3 : (¬ s0 = (0 : Int32)) → (x3 ≤ (200 : Int32)) → ((0 : Int32) ≤ x3) → utape x1.toNatClampNeg = some (ta + 2)) (q4 : (¬ s0 = (0 : Int32)) → (x3 ≤ (200 : Int32)) → ((0 : Int32) ≤ x3) → V G mX7_tape b 42 [some (.ref 2), some (.int x1), some (.int x2), some (.int x3)] [.int x3, .int x2, .ref (ta + 2)] h Q) (q5 : (¬ s0 = (0 : Int32)) → (x3 ≤ (200 : Int32)) → (¬ (0 : Int32) ≤ x3) → V G mX7_tape b 30 [some (.ref 2), some (.int x1), some (.int x2), some (.int x3)] [.int (5 : Int32), .ref 2] h Q) (q6 : (¬ s0 = (0 : Int32)) → (¬ x3 ≤ (200 : Int32)) → Q (some (.int (-2 : Int32))) h) : V G mX7_tape b 11 [some (.ref 2), some (.int x1), some (.int x2), some (.int x3)] [.int s0] h Q := by
  refine V_if_eq (t := 21) dX7_tape_11 (by decide) (fun z1 => ?_) (fun z1 => ?_)
  ·
    refine V_bipush dX7_tape_21 bp_m2 ?_
    exact V_iret dX7_tape_23 rfl (q1 z1)
  ·
    refine V_iload_n dX7_tape_14 rfl rfl ?_
    refine V_sipush dX7_tape_15 sp_200 ?_
    refine V_icmp_le (t := 24) dX7_tape_18 (by decide) (fun z2 => ?_) (fun z2 => ?_)
    ·
      refine V_iload_n dX7_tape_24 rfl rfl ?_
      refine V_if_ge (t := 34) dX7_tape_25 (by decide) (fun z3 => ?_) (fun z3 => ?_)
      ·
        refine V_aload_n dX7_tape_34 rfl rfl ?_
        refine V_get (ci := 7) (j := 4) (C0 := RX7) (T := TX7) (N := 9) dX7_tape_35 rfl g2 (by decide) (by decide) kf_X7_41 rfl ?_
        refine V_iload_n dX7_tape_38 rfl rfl ?_
        refine V_aald dX7_tape_39 g23 (q2 z1 z2 z3) (q3 z1 z2 z3) ?_
        refine V_iload_n dX7_tape_40 rfl rfl ?_
        refine V_iload_n dX7_tape_41 rfl rfl ?_
        exact V_sub (by exact (And.intro rfl (And.intro rfl (And.intro rfl (And.intro rfl True.intro))))) (q4 z1 z2 z3)
      ·
        refine V_aload_n dX7_tape_28 rfl rfl ?_
        refine V_iconst dX7_tape_29 ic_5 ?_
        exact V_sub (by exact (And.intro rfl (And.intro rfl (And.intro rfl (And.intro rfl True.intro))))) (q5 z1 z2 z3)
    ·
      refine V_bipush dX7_tape_21 bp_m2 ?_
      exact V_iret dX7_tape_23 rfl (q6 z1 z2)
theorem tX7_tape_33 {G : gx} {b : bg} {h : ah} {Q : Option Value → ah → Prop} {x1 : Int32} {x2 : Int32} {x3 : Int32} {s0 : Int32} (q1 : Q (some (.int s0)) h) : V G mX7_tape b 33 [some (.ref 2), some (.int x1), some (.int x2), some (.int x3)] [.int s0] h Q := by
  exact V_iret dX7_tape_33 rfl (q1)
theorem tX7_tape_45 {G : gx} {b : bg} {h : ah} {Q : Option Value → ah → Prop} {x1 : Int32} {x2 : Int32} {x3 : Int32} (q1 : Q (some (.int x3)) h) : V G mX7_tape b 45 [some (.ref 2), some (.int x1), some (.int x2), some (.int x3)] [] h Q := by
  refine V_iload_n dX7_tape_45 rfl rfl ?_
  exact V_iret dX7_tape_46 rfl (q1)
theorem cX7_tape_1 {G : gx} {d mc ms cc zz d2 mc2 ms2 : Nat} {L : List (Option Value)} {S : List Value} {h : ah} {Q Q2 : Option Value → ah → Prop} {a0 : Value} (hM : Ct G mX7_isTape d2 mc2 ms2 [a0] h Q2) (hdd : d2 < d ∧ d ≤ 9) (hrm : (S.map fun v => v.category).sum ≤ 8) (hf : cc + mc2 ≤ mc ∧ zz + ms2 ≤ ms) (kk : ∀ r h2, Q2 r h2 → V G mX7_tape (d, mc, ms, cc + mc2, zz + ms2) 4 L (r.toList ++ S) h2 Q) : V G mX7_tape (d, mc, ms, cc, zz) 1 L (a0 :: S) h Q := V_callS hM dX7_tape_1 ⟨km_X7_202, kt_X7_isTape⟩ cw_X7_isTape hdd rfl rfl hrm hf kk
theorem cX7_tape_8 {G : gx} {d mc ms cc zz d2 mc2 ms2 : Nat} {L : List (Option Value)} {S : List Value} {h : ah} {Q Q2 : Option Value → ah → Prop} {a0 : Value} (hM : Ct G mX7_isForm d2 mc2 ms2 [a0] h Q2) (hdd : d2 < d ∧ d ≤ 9) (hrm : (S.map fun v => v.category).sum ≤ 8) (hf : cc + mc2 ≤ mc ∧ zz + ms2 ≤ ms) (kk : ∀ r h2, Q2 r h2 → V G mX7_tape (d, mc, ms, cc + mc2, zz + ms2) 11 L (r.toList ++ S) h2 Q) : V G mX7_tape (d, mc, ms, cc, zz) 8 L (a0 :: S) h Q := V_callS hM dX7_tape_8 ⟨km_X7_205, kt_X7_isForm⟩ cw_X7_isForm hdd rfl rfl hrm hf kk
theorem cX7_tape_30 {G : gx} {d mc ms cc zz d2 mc2 ms2 : Nat} {L : List (Option Value)} {S : List Value} {h : ah} {Q Q2 : Option Value → ah → Prop} {k : Nat} {fs : List Value} {a0 : Value} (hM : Ct G mX7_finding d2 mc2 ms2 (.ref (k + 2) :: [a0]) h Q2) (hc : h (k + 2) = (7, .inl fs)) (hdd : d2 < d ∧ d ≤ 9) (hrm : (S.map fun v => v.category).sum ≤ 8) (hf : cc + mc2 ≤ mc ∧ zz + ms2 ≤ ms) (kk : ∀ r h2, Q2 r h2 → V G mX7_tape (d, mc, ms, cc + mc2, zz + ms2) 33 L (r.toList ++ S) h2 Q) : V G mX7_tape (d, mc, ms, cc, zz) 30 L (a0 :: .ref (k + 2) :: S) h Q := V_callV (ci := 7) (T := TX7) (N := 9) hM dX7_tape_30 ⟨km_X7_208, ki_X7_finding, ks_X7_finding⟩ cw_X7_finding rfl hc (by decide) hdd rfl rfl hrm hf kk
theorem cX7_tape_42 {G : gx} {d mc ms cc zz d2 mc2 ms2 : Nat} {L : List (Option Value)} {S : List Value} {h : ah} {Q Q2 : Option Value → ah → Prop} {k : Nat} {fs : List Value} {a0 a1 : Value} (hM : Ct G mX5_begin d2 mc2 ms2 (.ref (k + 2) :: [a0, a1]) h Q2) (hc : h (k + 2) = (5, .inl fs)) (hdd : d2 < d ∧ d ≤ 9) (hrm : (S.map fun v => v.category).sum ≤ 8) (hf : cc + mc2 ≤ mc ∧ zz + ms2 ≤ ms) (kk : ∀ r h2, Q2 r h2 → V G mX7_tape (d, mc, ms, cc + mc2, zz + ms2) 45 L (r.toList ++ S) h2 Q) : V G mX7_tape (d, mc, ms, cc, zz) 42 L (a1 :: a0 :: .ref (k + 2) :: S) h Q := V_callVN (ci := 5) (T := TX5) (N := 5) hM dX7_tape_42 ⟨km_X7_211, ki_X5_begin, ks_X5_begin⟩ cw_X5_begin rfl hc (by decide) hdd rfl rfl hrm hf kk
theorem tX7_lose_0 {G : gx} {b : bg} {h : ah} {Q : Option Value → ah → Prop} {x1 : Int32} (q1 : V G mX7_lose b 1 [some (.ref 2), some (.int x1)] [.int x1] h Q) : V G mX7_lose b 0 [some (.ref 2), some (.int x1)] [] h Q := by
  refine V_iload_n dX7_lose_0 rfl rfl ?_
  exact V_sub (by exact (And.intro rfl (And.intro rfl True.intro))) (q1)
theorem tX7_lose_4 {G : gx} {b : bg} {h : ah} {Q : Option Value → ah → Prop} {x1 : Int32} {s0 : Int32} {ufirstFound : Int32} {ulatestFinding : Int32} {utape : Nat → Option Nat} {ta : Nat} (g2 : h 2 = (7, .inl [.ref 3, .ref 5, .ref 9, .ref 17, .ref 23, .ref 36, .ref 38, .int ufirstFound, .int ulatestFinding])) (g23 : h 23 = (4, .inr (4, .inr (.inr utape)))) (q1 : (¬ s0 = (0 : Int32)) → vp_in x1 4) (q2 : (¬ s0 = (0 : Int32)) → utape x1.toNatClampNeg = some (ta + 2)) (q3 : (¬ s0 = (0 : Int32)) → V G mX7_lose b 16 [some (.ref 2), some (.int x1)] [.ref (ta + 2)] h Q) (q4 : (s0 = (0 : Int32)) → Q (some (.int (-2 : Int32))) h) : V G mX7_lose b 4 [some (.ref 2), some (.int x1)] [.int s0] h Q := by
  refine V_if_ne (t := 10) dX7_lose_4 (by decide) (fun z1 => ?_) (fun z1 => ?_)
  ·
    refine V_aload_n dX7_lose_10 rfl rfl ?_
    refine V_get (ci := 7) (j := 4) (C0 := RX7) (T := TX7) (N := 9) dX7_lose_11 rfl g2 (by decide) (by decide) kf_X7_41 rfl ?_
    refine V_iload_n dX7_lose_14 rfl rfl ?_
    refine V_aald dX7_lose_15 g23 (q1 z1) (q2 z1) ?_
    exact V_sub (by exact (And.intro rfl (And.intro rfl True.intro))) (q3 z1)
  ·
    refine V_bipush dX7_lose_7 bp_m2 ?_
    exact V_iret dX7_lose_9 rfl (q4 z1)
theorem tX7_lose_19 {G : gx} {b : bg} {h : ah} {Q : Option Value → ah → Prop} {x1 : Int32} {s0 : Int32} {ufirstFound : Int32} {ulatestFinding : Int32} {utape : Nat → Option Nat} {ta : Nat} (g2 : h 2 = (7, .inl [.ref 3, .ref 5, .ref 9, .ref 17, .ref 23, .ref 36, .ref 38, .int ufirstFound, .int ulatestFinding])) (g23 : h 23 = (4, .inr (4, .inr (.inr utape)))) (q1 : (s0 = (0 : Int32)) → vp_in x1 4) (q2 : (s0 = (0 : Int32)) → utape x1.toNatClampNeg = some (ta + 2)) (q3 : (s0 = (0 : Int32)) → V G mX7_lose b 36 [some (.ref 2), some (.int x1)] [.ref (ta + 2)] h Q) (q4 : (¬ s0 = (0 : Int32)) → V G mX7_lose b 24 [some (.ref 2), some (.int x1)] [.int (1 : Int32), .ref 2] h Q) : V G mX7_lose b 19 [some (.ref 2), some (.int x1)] [.int s0] h Q := by
  refine V_if_eq (t := 30) dX7_lose_19 (by decide) (fun z1 => ?_) (fun z1 => ?_)
  ·
    refine V_aload_n dX7_lose_30 rfl rfl ?_
    refine V_get (ci := 7) (j := 4) (C0 := RX7) (T := TX7) (N := 9) dX7_lose_31 rfl g2 (by decide) (by decide) kf_X7_41 rfl ?_
    refine V_iload_n dX7_lose_34 rfl rfl ?_
    refine V_aald dX7_lose_35 g23 (q1 z1) (q2 z1) ?_
    exact V_sub (by exact (And.intro rfl (And.intro rfl True.intro))) (q3 z1)
  ·
    refine V_aload_n dX7_lose_22 rfl rfl ?_
    refine V_iconst dX7_lose_23 ic_1 ?_
    exact V_sub (by exact (And.intro rfl (And.intro rfl True.intro))) (q4 z1)
theorem tX7_lose_27 {G : gx} {b : bg} {h : ah} {Q : Option Value → ah → Prop} {x1 : Int32} {s0 : Int32} (q1 : Q (some (.int s0)) h) : V G mX7_lose b 27 [some (.ref 2), some (.int x1)] [.int s0] h Q := by
  refine V_goto (t := 39) dX7_lose_27 (by decide) ?_
  exact V_iret dX7_lose_39 rfl (q1)
theorem tX7_lose_39 {G : gx} {b : bg} {h : ah} {Q : Option Value → ah → Prop} {x1 : Int32} {s0 : Int32} (q1 : Q (some (.int s0)) h) : V G mX7_lose b 39 [some (.ref 2), some (.int x1)] [.int s0] h Q := by
  exact V_iret dX7_lose_39 rfl (q1)
theorem cX7_lose_1 {G : gx} {d mc ms cc zz d2 mc2 ms2 : Nat} {L : List (Option Value)} {S : List Value} {h : ah} {Q Q2 : Option Value → ah → Prop} {a0 : Value} (hM : Ct G mX7_isTape d2 mc2 ms2 [a0] h Q2) (hdd : d2 < d ∧ d ≤ 9) (hrm : (S.map fun v => v.category).sum ≤ 8) (hf : cc + mc2 ≤ mc ∧ zz + ms2 ≤ ms) (kk : ∀ r h2, Q2 r h2 → V G mX7_lose (d, mc, ms, cc + mc2, zz + ms2) 4 L (r.toList ++ S) h2 Q) : V G mX7_lose (d, mc, ms, cc, zz) 1 L (a0 :: S) h Q := V_callS hM dX7_lose_1 ⟨km_X7_202, kt_X7_isTape⟩ cw_X7_isTape hdd rfl rfl hrm hf kk
theorem cX7_lose_16 {G : gx} {d mc ms cc zz d2 mc2 ms2 : Nat} {L : List (Option Value)} {S : List Value} {h : ah} {Q Q2 : Option Value → ah → Prop} {k : Nat} {fs : List Value} (hM : Ct G mX5_isLost d2 mc2 ms2 (.ref (k + 2) :: []) h Q2) (hc : h (k + 2) = (5, .inl fs)) (hdd : d2 < d ∧ d ≤ 9) (hrm : (S.map fun v => v.category).sum ≤ 8) (hf : cc + mc2 ≤ mc ∧ zz + ms2 ≤ ms) (kk : ∀ r h2, Q2 r h2 → V G mX7_lose (d, mc, ms, cc + mc2, zz + ms2) 19 L (r.toList ++ S) h2 Q) : V G mX7_lose (d, mc, ms, cc, zz) 16 L (.ref (k + 2) :: S) h Q := V_callVN (ci := 5) (T := TX5) (N := 5) hM dX7_lose_16 ⟨km_X7_214, ki_X5_isLost, ks_X5_isLost⟩ cw_X5_isLost rfl hc (by decide) hdd rfl rfl hrm hf kk
theorem cX7_lose_24 {G : gx} {d mc ms cc zz d2 mc2 ms2 : Nat} {L : List (Option Value)} {S : List Value} {h : ah} {Q Q2 : Option Value → ah → Prop} {k : Nat} {fs : List Value} {a0 : Value} (hM : Ct G mX7_finding d2 mc2 ms2 (.ref (k + 2) :: [a0]) h Q2) (hc : h (k + 2) = (7, .inl fs)) (hdd : d2 < d ∧ d ≤ 9) (hrm : (S.map fun v => v.category).sum ≤ 8) (hf : cc + mc2 ≤ mc ∧ zz + ms2 ≤ ms) (kk : ∀ r h2, Q2 r h2 → V G mX7_lose (d, mc, ms, cc + mc2, zz + ms2) 27 L (r.toList ++ S) h2 Q) : V G mX7_lose (d, mc, ms, cc, zz) 24 L (a0 :: .ref (k + 2) :: S) h Q := V_callV (ci := 7) (T := TX7) (N := 9) hM dX7_lose_24 ⟨km_X7_208, ki_X7_finding, ks_X7_finding⟩ cw_X7_finding rfl hc (by decide) hdd rfl rfl hrm hf kk
theorem cX7_lose_36 {G : gx} {d mc ms cc zz d2 mc2 ms2 : Nat} {L : List (Option Value)} {S : List Value} {h : ah} {Q Q2 : Option Value → ah → Prop} {k : Nat} {fs : List Value} (hM : Ct G mX5_drop d2 mc2 ms2 (.ref (k + 2) :: []) h Q2) (hc : h (k + 2) = (5, .inl fs)) (hdd : d2 < d ∧ d ≤ 9) (hrm : (S.map fun v => v.category).sum ≤ 8) (hf : cc + mc2 ≤ mc ∧ zz + ms2 ≤ ms) (kk : ∀ r h2, Q2 r h2 → V G mX7_lose (d, mc, ms, cc + mc2, zz + ms2) 39 L (r.toList ++ S) h2 Q) : V G mX7_lose (d, mc, ms, cc, zz) 36 L (.ref (k + 2) :: S) h Q := V_callVN (ci := 5) (T := TX5) (N := 5) hM dX7_lose_36 ⟨km_X7_217, ki_X5_drop, ks_X5_drop⟩ cw_X5_drop rfl hc (by decide) hdd rfl rfl hrm hf kk
theorem tX7_put_0 {G : gx} {b : bg} {h : ah} {Q : Option Value → ah → Prop} {x1 : Int32} {x2 : Int32} {x3 : Int32} {x4 : Int32} (q1 : V G mX7_put b 1 [some (.ref 2), some (.int x1), some (.int x2), some (.int x3), some (.int x4)] [.int x1] h Q) : V G mX7_put b 0 [some (.ref 2), some (.int x1), some (.int x2), some (.int x3), some (.int x4)] [] h Q := by
  refine V_iload_n dX7_put_0 rfl rfl ?_
  exact V_sub (by exact (And.intro rfl (And.intro rfl (And.intro rfl (And.intro rfl (And.intro rfl True.intro)))))) (q1)
theorem tX7_put_4 {G : gx} {b : bg} {h : ah} {Q : Option Value → ah → Prop} {x1 : Int32} {x2 : Int32} {x3 : Int32} {x4 : Int32} {s0 : Int32} (q1 : (s0 = (0 : Int32)) → Q (some (.int (-2 : Int32))) h) (q2 : (¬ s0 = (0 : Int32)) → V G mX7_put b 8 [some (.ref 2), some (.int x1), some (.int x2), some (.int x3), some (.int x4)] [.int x2] h Q) : V G mX7_put b 4 [some (.ref 2), some (.int x1), some (.int x2), some (.int x3), some (.int x4)] [.int s0] h Q := by
  refine V_if_eq (t := 14) dX7_put_4 (by decide) (fun z1 => ?_) (fun z1 => ?_)
  ·
    refine V_bipush dX7_put_14 bp_m2 ?_
    exact V_iret dX7_put_16 rfl (q1 z1)
  ·
    refine V_iload_n dX7_put_7 rfl rfl ?_
    exact V_sub (by exact (And.intro rfl (And.intro rfl (And.intro rfl (And.intro rfl (And.intro rfl True.intro)))))) (q2 z1)
theorem tX7_put_11 {G : gx} {b : bg} {h : ah} {Q : Option Value → ah → Prop} {x1 : Int32} {x2 : Int32} {x3 : Int32} {x4 : Int32} {s0 : Int32} {ufirstFound : Int32} {ulatestFinding : Int32} {utape : Nat → Option Nat} {ta : Nat} (g2 : h 2 = (7, .inl [.ref 3, .ref 5, .ref 9, .ref 17, .ref 23, .ref 36, .ref 38, .int ufirstFound, .int ulatestFinding])) (g23 : h 23 = (4, .inr (4, .inr (.inr utape)))) (q1 : (¬ s0 = (0 : Int32)) → vp_in x1 4) (q2 : (¬ s0 = (0 : Int32)) → utape x1.toNatClampNeg = some (ta + 2)) (q3 : (¬ s0 = (0 : Int32)) → V G mX7_put b 25 [some (.ref 2), some (.int x1), some (.int x2), some (.int x3), some (.int x4)] [.int x3, .int x2, .ref (ta + 2)] h Q) (q4 : (s0 = (0 : Int32)) → Q (some (.int (-2 : Int32))) h) : V G mX7_put b 11 [some (.ref 2), some (.int x1), some (.int x2), some (.int x3), some (.int x4)] [.int s0] h Q := by
  refine V_if_ne (t := 17) dX7_put_11 (by decide) (fun z1 => ?_) (fun z1 => ?_)
  ·
    refine V_aload_n dX7_put_17 rfl rfl ?_
    refine V_get (ci := 7) (j := 4) (C0 := RX7) (T := TX7) (N := 9) dX7_put_18 rfl g2 (by decide) (by decide) kf_X7_41 rfl ?_
    refine V_iload_n dX7_put_21 rfl rfl ?_
    refine V_aald dX7_put_22 g23 (q1 z1) (q2 z1) ?_
    refine V_iload_n dX7_put_23 rfl rfl ?_
    refine V_iload_n dX7_put_24 rfl rfl ?_
    exact V_sub (by exact (And.intro rfl (And.intro rfl (And.intro rfl (And.intro rfl (And.intro rfl True.intro)))))) (q3 z1)
  ·
    refine V_bipush dX7_put_14 bp_m2 ?_
    exact V_iret dX7_put_16 rfl (q4 z1)
theorem tX7_put_28 {G : gx} {b : bg} {h : ah} {Q : Option Value → ah → Prop} {x1 : Int32} {x2 : Int32} {x3 : Int32} {x4 : Int32} {s0 : Int32} {ufirstFound : Int32} {ulatestFinding : Int32} {utape : Nat → Option Nat} {ta : Nat} {ti : Nat} {tb : Nat} {tform : Int32} {tlength : Int32} (g2 : h 2 = (7, .inl [.ref 3, .ref 5, .ref 9, .ref 17, .ref 23, .ref 36, .ref 38, .int ufirstFound, .int ulatestFinding])) (g23 : h 23 = (4, .inr (4, .inr (.inr utape)))) (gta2 : h (ta + 2) = (5, .inl [.ref 3, .ref (ti + 2), .int tform, .int tlength, .ref (tb + 2)])) (q1 : (s0 = (0 : Int32)) → vp_in x1 4) (q2 : (s0 = (0 : Int32)) → utape x1.toNatClampNeg = some (ta + 2)) (q3 : (s0 = (0 : Int32)) → vp_in x1 4) (q4 : (s0 = (0 : Int32)) → utape x1.toNatClampNeg = some (ta + 2)) (q5 : (s0 = (0 : Int32)) → V G mX7_put b 60 [some (.ref 2), some (.int x1), some (.int x2), some (.int x3), some (.int x4), some (.int s0)] [.int x4, .ref (ta + 2), .int x3, .ref (ti + 2)] h Q) (q6 : (¬ s0 = (0 : Int32)) → V G mX7_put b 38 [some (.ref 2), some (.int x1), some (.int x2), some (.int x3), some (.int x4), some (.int s0)] [.int s0, .ref 2] h Q) : V G mX7_put b 28 [some (.ref 2), some (.int x1), some (.int x2), some (.int x3), some (.int x4)] [.int s0] h Q := by
  refine V_istore dX7_put_28 (Nat.le_of_ble_eq_true rfl) ?_
  refine V_iload dX7_put_30 rfl ?_
  refine V_if_eq (t := 42) dX7_put_32 (by decide) (fun z1 => ?_) (fun z1 => ?_)
  ·
    refine V_aload_n dX7_put_42 rfl rfl ?_
    refine V_get (ci := 7) (j := 4) (C0 := RX7) (T := TX7) (N := 9) dX7_put_43 rfl g2 (by decide) (by decide) kf_X7_41 rfl ?_
    refine V_iload_n dX7_put_46 rfl rfl ?_
    refine V_aald dX7_put_47 g23 (q1 z1) (q2 z1) ?_
    refine V_getN (ci := 5) (j := 1) (C0 := RX5) (T := TX5) (N := 5) dX7_put_48 rfl gta2 (by decide) (by decide) kf_X7_223 rfl ?_
    refine V_iload_n dX7_put_51 rfl rfl ?_
    refine V_aload_n dX7_put_52 rfl rfl ?_
    refine V_get (ci := 7) (j := 4) (C0 := RX7) (T := TX7) (N := 9) dX7_put_53 rfl g2 (by decide) (by decide) kf_X7_41 rfl ?_
    refine V_iload_n dX7_put_56 rfl rfl ?_
    refine V_aald dX7_put_57 g23 (q3 z1) (q4 z1) ?_
    refine V_iload dX7_put_58 rfl ?_
    exact V_sub (by exact (And.intro rfl (And.intro rfl (And.intro rfl (And.intro rfl (And.intro rfl (And.intro rfl True.intro))))))) (q5 z1)
  ·
    refine V_aload_n dX7_put_35 rfl rfl ?_
    refine V_iload dX7_put_36 rfl ?_
    exact V_sub (by exact (And.intro rfl (And.intro rfl (And.intro rfl (And.intro rfl (And.intro rfl (And.intro rfl True.intro))))))) (q6 z1)
theorem tX7_put_41 {G : gx} {b : bg} {h : ah} {Q : Option Value → ah → Prop} {x1 : Int32} {x2 : Int32} {x3 : Int32} {x4 : Int32} {x5 : Int32} {s0 : Int32} (q1 : Q (some (.int s0)) h) : V G mX7_put b 41 [some (.ref 2), some (.int x1), some (.int x2), some (.int x3), some (.int x4), some (.int x5)] [.int s0] h Q := by
  exact V_iret dX7_put_41 rfl (q1)
theorem tX7_put_63 {G : gx} {b : bg} {h : ah} {Q : Option Value → ah → Prop} {x1 : Int32} {x2 : Int32} {x3 : Int32} {x4 : Int32} {x5 : Int32} {s0 : Int32} {s1 : Int32} {s2 : Nat} {fs2 : Nat → Int32} {ns2 : Nat} (gs22 : h (s2 + 2) = (0, .inr (ns2, .inl fs2))) (q1 : vp_in s1 ns2) (q2 : Q (some (.int (1 : Int32))) (va_up h (s2 + 2) (0, .inr (ns2, .inl (upd fs2 s1.toNatClampNeg s0))))) : V G mX7_put b 63 [some (.ref 2), some (.int x1), some (.int x2), some (.int x3), some (.int x4), some (.int x5)] [.int s0, .int s1, .ref (s2 + 2)] h Q := by
  refine V_iast dX7_put_63 gs22 (q1) ?_
  refine V_iconst dX7_put_64 ic_1 ?_
  exact V_iret dX7_put_65 rfl (q2)
theorem cX7_put_1 {G : gx} {d mc ms cc zz d2 mc2 ms2 : Nat} {L : List (Option Value)} {S : List Value} {h : ah} {Q Q2 : Option Value → ah → Prop} {a0 : Value} (hM : Ct G mX7_isTape d2 mc2 ms2 [a0] h Q2) (hdd : d2 < d ∧ d ≤ 9) (hrm : (S.map fun v => v.category).sum ≤ 8) (hf : cc + mc2 ≤ mc ∧ zz + ms2 ≤ ms) (kk : ∀ r h2, Q2 r h2 → V G mX7_put (d, mc, ms, cc + mc2, zz + ms2) 4 L (r.toList ++ S) h2 Q) : V G mX7_put (d, mc, ms, cc, zz) 1 L (a0 :: S) h Q := V_callS hM dX7_put_1 ⟨km_X7_202, kt_X7_isTape⟩ cw_X7_isTape hdd rfl rfl hrm hf kk
theorem cX7_put_8 {G : gx} {d mc ms cc zz d2 mc2 ms2 : Nat} {L : List (Option Value)} {S : List Value} {h : ah} {Q Q2 : Option Value → ah → Prop} {a0 : Value} (hM : Ct G mX7_isForm d2 mc2 ms2 [a0] h Q2) (hdd : d2 < d ∧ d ≤ 9) (hrm : (S.map fun v => v.category).sum ≤ 8) (hf : cc + mc2 ≤ mc ∧ zz + ms2 ≤ ms) (kk : ∀ r h2, Q2 r h2 → V G mX7_put (d, mc, ms, cc + mc2, zz + ms2) 11 L (r.toList ++ S) h2 Q) : V G mX7_put (d, mc, ms, cc, zz) 8 L (a0 :: S) h Q := V_callS hM dX7_put_8 ⟨km_X7_205, kt_X7_isForm⟩ cw_X7_isForm hdd rfl rfl hrm hf kk
theorem cX7_put_25 {G : gx} {d mc ms cc zz d2 mc2 ms2 : Nat} {L : List (Option Value)} {S : List Value} {h : ah} {Q Q2 : Option Value → ah → Prop} {a0 a1 a2 : Value} (hM : Ct G mX7_faultOfItem d2 mc2 ms2 [a0, a1, a2] h Q2) (hdd : d2 < d ∧ d ≤ 9) (hrm : (S.map fun v => v.category).sum ≤ 8) (hf : cc + mc2 ≤ mc ∧ zz + ms2 ≤ ms) (kk : ∀ r h2, Q2 r h2 → V G mX7_put (d, mc, ms, cc + mc2, zz + ms2) 28 L (r.toList ++ S) h2 Q) : V G mX7_put (d, mc, ms, cc, zz) 25 L (a2 :: a1 :: a0 :: S) h Q := V_callS hM dX7_put_25 ⟨km_X7_219, kt_X7_faultOfItem⟩ cw_X7_faultOfItem hdd rfl rfl hrm hf kk
theorem cX7_put_38 {G : gx} {d mc ms cc zz d2 mc2 ms2 : Nat} {L : List (Option Value)} {S : List Value} {h : ah} {Q Q2 : Option Value → ah → Prop} {k : Nat} {fs : List Value} {a0 : Value} (hM : Ct G mX7_finding d2 mc2 ms2 (.ref (k + 2) :: [a0]) h Q2) (hc : h (k + 2) = (7, .inl fs)) (hdd : d2 < d ∧ d ≤ 9) (hrm : (S.map fun v => v.category).sum ≤ 8) (hf : cc + mc2 ≤ mc ∧ zz + ms2 ≤ ms) (kk : ∀ r h2, Q2 r h2 → V G mX7_put (d, mc, ms, cc + mc2, zz + ms2) 41 L (r.toList ++ S) h2 Q) : V G mX7_put (d, mc, ms, cc, zz) 38 L (a0 :: .ref (k + 2) :: S) h Q := V_callV (ci := 7) (T := TX7) (N := 9) hM dX7_put_38 ⟨km_X7_208, ki_X7_finding, ks_X7_finding⟩ cw_X7_finding rfl hc (by decide) hdd rfl rfl hrm hf kk
theorem cX7_put_60 {G : gx} {d mc ms cc zz d2 mc2 ms2 : Nat} {L : List (Option Value)} {S : List Value} {h : ah} {Q Q2 : Option Value → ah → Prop} {k : Nat} {fs : List Value} {a0 : Value} (hM : Ct G mX5_fitted d2 mc2 ms2 (.ref (k + 2) :: [a0]) h Q2) (hc : h (k + 2) = (5, .inl fs)) (hdd : d2 < d ∧ d ≤ 9) (hrm : (S.map fun v => v.category).sum ≤ 8) (hf : cc + mc2 ≤ mc ∧ zz + ms2 ≤ ms) (kk : ∀ r h2, Q2 r h2 → V G mX7_put (d, mc, ms, cc + mc2, zz + ms2) 63 L (r.toList ++ S) h2 Q) : V G mX7_put (d, mc, ms, cc, zz) 60 L (a0 :: .ref (k + 2) :: S) h Q := V_callVN (ci := 5) (T := TX5) (N := 5) hM dX7_put_60 ⟨km_X7_226, ki_X5_fitted, ks_X5_fitted⟩ cw_X5_fitted rfl hc (by decide) hdd rfl rfl hrm hf kk
theorem tX7_get_0 {G : gx} {b : bg} {h : ah} {Q : Option Value → ah → Prop} {x1 : Int32} {x2 : Int32} {x3 : Int32} (q1 : V G mX7_get b 1 [some (.ref 2), some (.int x1), some (.int x2), some (.int x3)] [.int x1] h Q) : V G mX7_get b 0 [some (.ref 2), some (.int x1), some (.int x2), some (.int x3)] [] h Q := by
  refine V_iload_n dX7_get_0 rfl rfl ?_
  exact V_sub (by exact (And.intro rfl (And.intro rfl (And.intro rfl (And.intro rfl True.intro))))) (q1)
theorem tX7_get_4 {G : gx} {b : bg} {h : ah} {Q : Option Value → ah → Prop} {x1 : Int32} {x2 : Int32} {x3 : Int32} {s0 : Int32} (q1 : (s0 = (0 : Int32)) → Q (some (.int (-2147483648 : Int32))) h) (q2 : (¬ s0 = (0 : Int32)) → V G mX7_get b 8 [some (.ref 2), some (.int x1), some (.int x2), some (.int x3)] [.int x2] h Q) : V G mX7_get b 4 [some (.ref 2), some (.int x1), some (.int x2), some (.int x3)] [.int s0] h Q := by
  refine V_if_eq (t := 14) dX7_get_4 (by decide) (fun z1 => ?_) (fun z1 => ?_)
  ·
    refine V_ldc dX7_get_14 kk_X7_231 ?_
    exact V_iret dX7_get_16 rfl (q1 z1)
  ·
    refine V_iload_n dX7_get_7 rfl rfl ?_
    exact V_sub (by exact (And.intro rfl (And.intro rfl (And.intro rfl (And.intro rfl True.intro))))) (q2 z1)
theorem tX7_get_11 {G : gx} {b : bg} {h : ah} {Q : Option Value → ah → Prop} {x1 : Int32} {x2 : Int32} {x3 : Int32} {s0 : Int32} {ufirstFound : Int32} {ulatestFinding : Int32} {utape : Nat → Option Nat} {ta : Nat} (g2 : h 2 = (7, .inl [.ref 3, .ref 5, .ref 9, .ref 17, .ref 23, .ref 36, .ref 38, .int ufirstFound, .int ulatestFinding])) (g23 : h 23 = (4, .inr (4, .inr (.inr utape)))) (q1 : (¬ s0 = (0 : Int32)) → vp_in x1 4) (q2 : (¬ s0 = (0 : Int32)) → utape x1.toNatClampNeg = some (ta + 2)) (q3 : (¬ s0 = (0 : Int32)) → V G mX7_get b 25 [some (.ref 2), some (.int x1), some (.int x2), some (.int x3)] [.int x3, .int x2, .ref (ta + 2)] h Q) (q4 : (s0 = (0 : Int32)) → Q (some (.int (-2147483648 : Int32))) h) : V G mX7_get b 11 [some (.ref 2), some (.int x1), some (.int x2), some (.int x3)] [.int s0] h Q := by
  refine V_if_ne (t := 17) dX7_get_11 (by decide) (fun z1 => ?_) (fun z1 => ?_)
  ·
    refine V_aload_n dX7_get_17 rfl rfl ?_
    refine V_get (ci := 7) (j := 4) (C0 := RX7) (T := TX7) (N := 9) dX7_get_18 rfl g2 (by decide) (by decide) kf_X7_41 rfl ?_
    refine V_iload_n dX7_get_21 rfl rfl ?_
    refine V_aald dX7_get_22 g23 (q1 z1) (q2 z1) ?_
    refine V_iload_n dX7_get_23 rfl rfl ?_
    refine V_iload_n dX7_get_24 rfl rfl ?_
    exact V_sub (by exact (And.intro rfl (And.intro rfl (And.intro rfl (And.intro rfl True.intro))))) (q3 z1)
  ·
    refine V_ldc dX7_get_14 kk_X7_231 ?_
    exact V_iret dX7_get_16 rfl (q4 z1)
theorem tX7_get_28 {G : gx} {b : bg} {h : ah} {Q : Option Value → ah → Prop} {x1 : Int32} {x2 : Int32} {x3 : Int32} {s0 : Int32} {ufirstFound : Int32} {ulatestFinding : Int32} {utape : Nat → Option Nat} {ta : Nat} {ti : Nat} {tb : Nat} {tform : Int32} {tlength : Int32} {fti : Nat → Int32} {nti : Nat} (g2 : h 2 = (7, .inl [.ref 3, .ref 5, .ref 9, .ref 17, .ref 23, .ref 36, .ref 38, .int ufirstFound, .int ulatestFinding])) (g23 : h 23 = (4, .inr (4, .inr (.inr utape)))) (gta2 : h (ta + 2) = (5, .inl [.ref 3, .ref (ti + 2), .int tform, .int tlength, .ref (tb + 2)])) (gti2 : h (ti + 2) = (0, .inr (nti, .inl fti))) (q1 : (s0 = (0 : Int32)) → vp_in x1 4) (q2 : (s0 = (0 : Int32)) → utape x1.toNatClampNeg = some (ta + 2)) (q3 : (s0 = (0 : Int32)) → vp_in x3 nti) (q4 : (s0 = (0 : Int32)) → Q (some (.int (fti x3.toNatClampNeg))) h) (q5 : (¬ s0 = (0 : Int32)) → Q (some (.int (-2147483648 : Int32))) (va_up h 2 (7, .inl [.ref 3, .ref 5, .ref 9, .ref 17, .ref 23, .ref 36, .ref 38, .int ufirstFound, .int s0]))) : V G mX7_get b 28 [some (.ref 2), some (.int x1), some (.int x2), some (.int x3)] [.int s0] h Q := by
  refine V_istore dX7_get_28 (Nat.le_of_ble_eq_true rfl) ?_
  refine V_iload dX7_get_30 rfl ?_
  refine V_if_eq (t := 44) dX7_get_32 (by decide) (fun z1 => ?_) (fun z1 => ?_)
  ·
    refine V_aload_n dX7_get_44 rfl rfl ?_
    refine V_get (ci := 7) (j := 4) (C0 := RX7) (T := TX7) (N := 9) dX7_get_45 rfl g2 (by decide) (by decide) kf_X7_41 rfl ?_
    refine V_iload_n dX7_get_48 rfl rfl ?_
    refine V_aald dX7_get_49 g23 (q1 z1) (q2 z1) ?_
    refine V_getN (ci := 5) (j := 1) (C0 := RX5) (T := TX5) (N := 5) dX7_get_50 rfl gta2 (by decide) (by decide) kf_X7_223 rfl ?_
    refine V_iload_n dX7_get_53 rfl rfl ?_
    refine V_iald dX7_get_54 gti2 (q3 z1) ?_
    exact V_iret dX7_get_55 rfl (q4 z1)
  ·
    refine V_aload_n dX7_get_35 rfl rfl ?_
    refine V_iload dX7_get_36 rfl ?_
    refine V_put (ci := 7) (j := 8) (C0 := RX7) (T := TX7) (N := 9) (ty := .int) dX7_get_38 rfl g2 (by decide) (by decide) kf_X7_64 rfl (by decide +kernel) rfl rfl (Nat.le_of_ble_eq_true rfl) ?_
    refine V_ldc dX7_get_41 kk_X7_231 ?_
    exact V_iret dX7_get_43 rfl (q5 z1)
theorem cX7_get_1 {G : gx} {d mc ms cc zz d2 mc2 ms2 : Nat} {L : List (Option Value)} {S : List Value} {h : ah} {Q Q2 : Option Value → ah → Prop} {a0 : Value} (hM : Ct G mX7_isTape d2 mc2 ms2 [a0] h Q2) (hdd : d2 < d ∧ d ≤ 9) (hrm : (S.map fun v => v.category).sum ≤ 8) (hf : cc + mc2 ≤ mc ∧ zz + ms2 ≤ ms) (kk : ∀ r h2, Q2 r h2 → V G mX7_get (d, mc, ms, cc + mc2, zz + ms2) 4 L (r.toList ++ S) h2 Q) : V G mX7_get (d, mc, ms, cc, zz) 1 L (a0 :: S) h Q := V_callS hM dX7_get_1 ⟨km_X7_202, kt_X7_isTape⟩ cw_X7_isTape hdd rfl rfl hrm hf kk
theorem cX7_get_8 {G : gx} {d mc ms cc zz d2 mc2 ms2 : Nat} {L : List (Option Value)} {S : List Value} {h : ah} {Q Q2 : Option Value → ah → Prop} {a0 : Value} (hM : Ct G mX7_isForm d2 mc2 ms2 [a0] h Q2) (hdd : d2 < d ∧ d ≤ 9) (hrm : (S.map fun v => v.category).sum ≤ 8) (hf : cc + mc2 ≤ mc ∧ zz + ms2 ≤ ms) (kk : ∀ r h2, Q2 r h2 → V G mX7_get (d, mc, ms, cc + mc2, zz + ms2) 11 L (r.toList ++ S) h2 Q) : V G mX7_get (d, mc, ms, cc, zz) 8 L (a0 :: S) h Q := V_callS hM dX7_get_8 ⟨km_X7_205, kt_X7_isForm⟩ cw_X7_isForm hdd rfl rfl hrm hf kk
theorem cX7_get_25 {G : gx} {d mc ms cc zz d2 mc2 ms2 : Nat} {L : List (Option Value)} {S : List Value} {h : ah} {Q Q2 : Option Value → ah → Prop} {a0 a1 a2 : Value} (hM : Ct G mX7_faultOfItem d2 mc2 ms2 [a0, a1, a2] h Q2) (hdd : d2 < d ∧ d ≤ 9) (hrm : (S.map fun v => v.category).sum ≤ 8) (hf : cc + mc2 ≤ mc ∧ zz + ms2 ≤ ms) (kk : ∀ r h2, Q2 r h2 → V G mX7_get (d, mc, ms, cc + mc2, zz + ms2) 28 L (r.toList ++ S) h2 Q) : V G mX7_get (d, mc, ms, cc, zz) 25 L (a2 :: a1 :: a0 :: S) h Q := V_callS hM dX7_get_25 ⟨km_X7_219, kt_X7_faultOfItem⟩ cw_X7_faultOfItem hdd rfl rfl hrm hf kk
theorem tX7_copy_0 {G : gx} {b : bg} {h : ah} {Q : Option Value → ah → Prop} {x1 : Int32} {x2 : Int32} {x3 : Int32} {x4 : Int32} {x5 : Int32} (q1 : V G mX7_copy b 1 [some (.ref 2), some (.int x1), some (.int x2), some (.int x3), some (.int x4), some (.int x5)] [.int x1] h Q) : V G mX7_copy b 0 [some (.ref 2), some (.int x1), some (.int x2), some (.int x3), some (.int x4), some (.int x5)] [] h Q := by
  refine V_iload_n dX7_copy_0 rfl rfl ?_
  exact V_sub (by exact (And.intro rfl (And.intro rfl (And.intro rfl (And.intro rfl (And.intro rfl (And.intro rfl True.intro))))))) (q1)
theorem tX7_copy_4 {G : gx} {b : bg} {h : ah} {Q : Option Value → ah → Prop} {x1 : Int32} {x2 : Int32} {x3 : Int32} {x4 : Int32} {x5 : Int32} {s0 : Int32} (q1 : (s0 = (0 : Int32)) → Q (some (.int (-2 : Int32))) h) (q2 : (¬ s0 = (0 : Int32)) → V G mX7_copy b 8 [some (.ref 2), some (.int x1), some (.int x2), some (.int x3), some (.int x4), some (.int x5)] [.int x3] h Q) : V G mX7_copy b 4 [some (.ref 2), some (.int x1), some (.int x2), some (.int x3), some (.int x4), some (.int x5)] [.int s0] h Q := by
  refine V_if_eq (t := 14) dX7_copy_4 (by decide) (fun z1 => ?_) (fun z1 => ?_)
  ·
    refine V_bipush dX7_copy_14 bp_m2 ?_
    exact V_iret dX7_copy_16 rfl (q1 z1)
  ·
    refine V_iload_n dX7_copy_7 rfl rfl ?_
    exact V_sub (by exact (And.intro rfl (And.intro rfl (And.intro rfl (And.intro rfl (And.intro rfl (And.intro rfl True.intro))))))) (q2 z1)
theorem tX7_copy_11 {G : gx} {b : bg} {h : ah} {Q : Option Value → ah → Prop} {x1 : Int32} {x2 : Int32} {x3 : Int32} {x4 : Int32} {x5 : Int32} {s0 : Int32} {ufirstFound : Int32} {ulatestFinding : Int32} {utape : Nat → Option Nat} {ta : Nat} (g2 : h 2 = (7, .inl [.ref 3, .ref 5, .ref 9, .ref 17, .ref 23, .ref 36, .ref 38, .int ufirstFound, .int ulatestFinding])) (g23 : h 23 = (4, .inr (4, .inr (.inr utape)))) (q1 : (¬ s0 = (0 : Int32)) → vp_in x1 4) (q2 : (¬ s0 = (0 : Int32)) → utape x1.toNatClampNeg = some (ta + 2)) (q3 : (¬ s0 = (0 : Int32)) → vp_in x3 4) (q4 : (¬ s0 = (0 : Int32)) → utape x3.toNatClampNeg = some (ta + 2)) (q5 : (¬ s0 = (0 : Int32)) → V G mX7_copy b 35 [some (.ref 2), some (.int x1), some (.int x2), some (.int x3), some (.int x4), some (.int x5), some (.ref (ta + 2)), some (.ref (ta + 2))] [.ref (ta + 2)] h Q) (q6 : (s0 = (0 : Int32)) → Q (some (.int (-2 : Int32))) h) : V G mX7_copy b 11 [some (.ref 2), some (.int x1), some (.int x2), some (.int x3), some (.int x4), some (.int x5)] [.int s0] h Q := by
  refine V_if_ne (t := 17) dX7_copy_11 (by decide) (fun z1 => ?_) (fun z1 => ?_)
  ·
    refine V_aload_n dX7_copy_17 rfl rfl ?_
    refine V_get (ci := 7) (j := 4) (C0 := RX7) (T := TX7) (N := 9) dX7_copy_18 rfl g2 (by decide) (by decide) kf_X7_41 rfl ?_
    refine V_iload_n dX7_copy_21 rfl rfl ?_
    refine V_aald dX7_copy_22 g23 (q1 z1) (q2 z1) ?_
    refine V_astore dX7_copy_23 (Nat.le_of_ble_eq_true rfl) ?_
    refine V_aload_n dX7_copy_25 rfl rfl ?_
    refine V_get (ci := 7) (j := 4) (C0 := RX7) (T := TX7) (N := 9) dX7_copy_26 rfl g2 (by decide) (by decide) kf_X7_41 rfl ?_
    refine V_iload_n dX7_copy_29 rfl rfl ?_
    refine V_aald dX7_copy_30 g23 (q3 z1) (q4 z1) ?_
    refine V_astore dX7_copy_31 (Nat.le_of_ble_eq_true rfl) ?_
    refine V_aload dX7_copy_33 rfl ?_
    exact V_sub (by exact (And.intro rfl (And.intro rfl (And.intro rfl (And.intro rfl (And.intro rfl (And.intro rfl (And.intro rfl (And.intro rfl True.intro))))))))) (q5 z1)
  ·
    refine V_bipush dX7_copy_14 bp_m2 ?_
    exact V_iret dX7_copy_16 rfl (q6 z1)
theorem tX7_copy_38 {G : gx} {b : bg} {h : ah} {Q : Option Value → ah → Prop} {x1 : Int32} {x2 : Int32} {x3 : Int32} {x4 : Int32} {x5 : Int32} {p6 : Nat} {p7 : Nat} {s0 : Int32} (q1 : (¬ s0 = (0 : Int32)) → V G mX7_copy b 51 [some (.ref 2), some (.int x1), some (.int x2), some (.int x3), some (.int x4), some (.int x5), some (.ref (p6 + 2)), some (.ref (p7 + 2))] [.int (1 : Int32), .ref 2] h Q) (q2 : (s0 = (0 : Int32)) → V G mX7_copy b 43 [some (.ref 2), some (.int x1), some (.int x2), some (.int x3), some (.int x4), some (.int x5), some (.ref (p6 + 2)), some (.ref (p7 + 2))] [.ref (p7 + 2)] h Q) : V G mX7_copy b 38 [some (.ref 2), some (.int x1), some (.int x2), some (.int x3), some (.int x4), some (.int x5), some (.ref (p6 + 2)), some (.ref (p7 + 2))] [.int s0] h Q := by
  refine V_if_ne (t := 49) dX7_copy_38 (by decide) (fun z1 => ?_) (fun z1 => ?_)
  ·
    refine V_aload_n dX7_copy_49 rfl rfl ?_
    refine V_iconst dX7_copy_50 ic_1 ?_
    exact V_sub (by exact (And.intro rfl (And.intro rfl (And.intro rfl (And.intro rfl (And.intro rfl (And.intro rfl (And.intro rfl (And.intro rfl True.intro))))))))) (q1 z1)
  ·
    refine V_aload dX7_copy_41 rfl ?_
    exact V_sub (by exact (And.intro rfl (And.intro rfl (And.intro rfl (And.intro rfl (And.intro rfl (And.intro rfl (And.intro rfl (And.intro rfl True.intro))))))))) (q2 z1)
theorem tX7_copy_46 {G : gx} {b : bg} {h : ah} {Q : Option Value → ah → Prop} {x1 : Int32} {x2 : Int32} {x3 : Int32} {x4 : Int32} {x5 : Int32} {p6 : Nat} {p7 : Nat} {s0 : Int32} {ti : Nat} {tb : Nat} {tform : Int32} {tlength : Int32} (gp62 : h (p6 + 2) = (5, .inl [.ref 3, .ref (ti + 2), .int tform, .int tlength, .ref (tb + 2)])) (gp72 : h (p7 + 2) = (5, .inl [.ref 3, .ref (ti + 2), .int tform, .int tlength, .ref (tb + 2)])) (q1 : (s0 = (0 : Int32)) → (tform = tform) → V G mX7_copy b 79 [some (.ref 2), some (.int x1), some (.int x2), some (.int x3), some (.int x4), some (.int x5), some (.ref (p6 + 2)), some (.ref (p7 + 2))] [.int x5, .int x2, .ref (p6 + 2)] h Q) (q2 : (s0 = (0 : Int32)) → (¬ tform = tform) → V G mX7_copy b 70 [some (.ref 2), some (.int x1), some (.int x2), some (.int x3), some (.int x4), some (.int x5), some (.ref (p6 + 2)), some (.ref (p7 + 2))] [.int (4 : Int32), .ref 2] h Q) (q3 : (¬ s0 = (0 : Int32)) → V G mX7_copy b 51 [some (.ref 2), some (.int x1), some (.int x2), some (.int x3), some (.int x4), some (.int x5), some (.ref (p6 + 2)), some (.ref (p7 + 2))] [.int (1 : Int32), .ref 2] h Q) : V G mX7_copy b 46 [some (.ref 2), some (.int x1), some (.int x2), some (.int x3), some (.int x4), some (.int x5), some (.ref (p6 + 2)), some (.ref (p7 + 2))] [.int s0] h Q := by
  refine V_if_eq (t := 55) dX7_copy_46 (by decide) (fun z1 => ?_) (fun z1 => ?_)
  ·
    refine V_aload dX7_copy_55 rfl ?_
    refine V_getN (ci := 5) (j := 2) (C0 := RX5) (T := TX5) (N := 5) dX7_copy_57 rfl gp62 (by decide) (by decide) kf_X7_232 rfl ?_
    refine V_aload dX7_copy_60 rfl ?_
    refine V_getN (ci := 5) (j := 2) (C0 := RX5) (T := TX5) (N := 5) dX7_copy_62 rfl gp72 (by decide) (by decide) kf_X7_232 rfl ?_
    refine V_icmp_eq (t := 74) dX7_copy_65 (by decide) (fun z2 => ?_) (fun z2 => ?_)
    ·
      refine V_aload dX7_copy_74 rfl ?_
      refine V_iload_n dX7_copy_76 rfl rfl ?_
      refine V_iload dX7_copy_77 rfl ?_
      exact V_sub (by exact (And.intro rfl (And.intro rfl (And.intro rfl (And.intro rfl (And.intro rfl (And.intro rfl (And.intro rfl (And.intro rfl True.intro))))))))) (q1 z1 z2)
    ·
      refine V_aload_n dX7_copy_68 rfl rfl ?_
      refine V_iconst dX7_copy_69 ic_4 ?_
      exact V_sub (by exact (And.intro rfl (And.intro rfl (And.intro rfl (And.intro rfl (And.intro rfl (And.intro rfl (And.intro rfl (And.intro rfl True.intro))))))))) (q2 z1 z2)
  ·
    refine V_aload_n dX7_copy_49 rfl rfl ?_
    refine V_iconst dX7_copy_50 ic_1 ?_
    exact V_sub (by exact (And.intro rfl (And.intro rfl (And.intro rfl (And.intro rfl (And.intro rfl (And.intro rfl (And.intro rfl (And.intro rfl True.intro))))))))) (q3 z1)
theorem tX7_copy_54 {G : gx} {b : bg} {h : ah} {Q : Option Value → ah → Prop} {x1 : Int32} {x2 : Int32} {x3 : Int32} {x4 : Int32} {x5 : Int32} {p6 : Nat} {p7 : Nat} {s0 : Int32} (q1 : Q (some (.int s0)) h) : V G mX7_copy b 54 [some (.ref 2), some (.int x1), some (.int x2), some (.int x3), some (.int x4), some (.int x5), some (.ref (p6 + 2)), some (.ref (p7 + 2))] [.int s0] h Q := by
  exact V_iret dX7_copy_54 rfl (q1)
theorem tX7_copy_73 {G : gx} {b : bg} {h : ah} {Q : Option Value → ah → Prop} {x1 : Int32} {x2 : Int32} {x3 : Int32} {x4 : Int32} {x5 : Int32} {p6 : Nat} {p7 : Nat} {s0 : Int32} (q1 : Q (some (.int s0)) h) : V G mX7_copy b 73 [some (.ref 2), some (.int x1), some (.int x2), some (.int x3), some (.int x4), some (.int x5), some (.ref (p6 + 2)), some (.ref (p7 + 2))] [.int s0] h Q := by
  exact V_iret dX7_copy_73 rfl (q1)
theorem tX7_copy_82 {G : gx} {b : bg} {h : ah} {Q : Option Value → ah → Prop} {x1 : Int32} {x2 : Int32} {x3 : Int32} {x4 : Int32} {x5 : Int32} {p6 : Nat} {p7 : Nat} {s0 : Int32} (q1 : (s0 = (0 : Int32)) → V G mX7_copy b 99 [some (.ref 2), some (.int x1), some (.int x2), some (.int x3), some (.int x4), some (.int x5), some (.ref (p6 + 2)), some (.ref (p7 + 2))] [.int (2 : Int32), .ref 2] h Q) (q2 : (¬ s0 = (0 : Int32)) → V G mX7_copy b 91 [some (.ref 2), some (.int x1), some (.int x2), some (.int x3), some (.int x4), some (.int x5), some (.ref (p6 + 2)), some (.ref (p7 + 2))] [.int x5, .int x4, .ref (p7 + 2)] h Q) : V G mX7_copy b 82 [some (.ref 2), some (.int x1), some (.int x2), some (.int x3), some (.int x4), some (.int x5), some (.ref (p6 + 2)), some (.ref (p7 + 2))] [.int s0] h Q := by
  refine V_if_eq (t := 97) dX7_copy_82 (by decide) (fun z1 => ?_) (fun z1 => ?_)
  ·
    refine V_aload_n dX7_copy_97 rfl rfl ?_
    refine V_iconst dX7_copy_98 ic_2 ?_
    exact V_sub (by exact (And.intro rfl (And.intro rfl (And.intro rfl (And.intro rfl (And.intro rfl (And.intro rfl (And.intro rfl (And.intro rfl True.intro))))))))) (q1 z1)
  ·
    refine V_aload dX7_copy_85 rfl ?_
    refine V_iload dX7_copy_87 rfl ?_
    refine V_iload dX7_copy_89 rfl ?_
    exact V_sub (by exact (And.intro rfl (And.intro rfl (And.intro rfl (And.intro rfl (And.intro rfl (And.intro rfl (And.intro rfl (And.intro rfl True.intro))))))))) (q2 z1)
theorem tX7_copy_94 {G : gx} {b : bg} {h : ah} {Q : Option Value → ah → Prop} {x1 : Int32} {x2 : Int32} {x3 : Int32} {x4 : Int32} {x5 : Int32} {p6 : Nat} {p7 : Nat} {s0 : Int32} {ti : Nat} {tb : Nat} {tform : Int32} {tlength : Int32} (gp62 : h (p6 + 2) = (5, .inl [.ref 3, .ref (ti + 2), .int tform, .int tlength, .ref (tb + 2)])) (gp72 : h (p7 + 2) = (5, .inl [.ref 3, .ref (ti + 2), .int tform, .int tlength, .ref (tb + 2)])) (q1 : (¬ s0 = (0 : Int32)) → V G mX7_copy b 118 [some (.ref 2), some (.int x1), some (.int x2), some (.int x3), some (.int x4), some (.int x5), some (.ref (p6 + 2)), some (.ref (p7 + 2))] [.int x5, .int x4, .ref (ti + 2), .int x2, .ref (ti + 2)] h Q) (q2 : (s0 = (0 : Int32)) → V G mX7_copy b 99 [some (.ref 2), some (.int x1), some (.int x2), some (.int x3), some (.int x4), some (.int x5), some (.ref (p6 + 2)), some (.ref (p7 + 2))] [.int (2 : Int32), .ref 2] h Q) : V G mX7_copy b 94 [some (.ref 2), some (.int x1), some (.int x2), some (.int x3), some (.int x4), some (.int x5), some (.ref (p6 + 2)), some (.ref (p7 + 2))] [.int s0] h Q := by
  refine V_if_ne (t := 103) dX7_copy_94 (by decide) (fun z1 => ?_) (fun z1 => ?_)
  ·
    refine V_aload dX7_copy_103 rfl ?_
    refine V_getN (ci := 5) (j := 1) (C0 := RX5) (T := TX5) (N := 5) dX7_copy_105 rfl gp62 (by decide) (by decide) kf_X7_223 rfl ?_
    refine V_iload_n dX7_copy_108 rfl rfl ?_
    refine V_aload dX7_copy_109 rfl ?_
    refine V_getN (ci := 5) (j := 1) (C0 := RX5) (T := TX5) (N := 5) dX7_copy_111 rfl gp72 (by decide) (by decide) kf_X7_223 rfl ?_
    refine V_iload dX7_copy_114 rfl ?_
    refine V_iload dX7_copy_116 rfl ?_
    exact V_sub (by exact (And.intro rfl (And.intro rfl (And.intro rfl (And.intro rfl (And.intro rfl (And.intro rfl (And.intro rfl (And.intro rfl True.intro))))))))) (q1 z1)
  ·
    refine V_aload_n dX7_copy_97 rfl rfl ?_
    refine V_iconst dX7_copy_98 ic_2 ?_
    exact V_sub (by exact (And.intro rfl (And.intro rfl (And.intro rfl (And.intro rfl (And.intro rfl (And.intro rfl (And.intro rfl (And.intro rfl True.intro))))))))) (q2 z1)
theorem tX7_copy_102 {G : gx} {b : bg} {h : ah} {Q : Option Value → ah → Prop} {x1 : Int32} {x2 : Int32} {x3 : Int32} {x4 : Int32} {x5 : Int32} {p6 : Nat} {p7 : Nat} {s0 : Int32} (q1 : Q (some (.int s0)) h) : V G mX7_copy b 102 [some (.ref 2), some (.int x1), some (.int x2), some (.int x3), some (.int x4), some (.int x5), some (.ref (p6 + 2)), some (.ref (p7 + 2))] [.int s0] h Q := by
  exact V_iret dX7_copy_102 rfl (q1)
theorem tX7_copy_121 {G : gx} {b : bg} {h : ah} {Q : Option Value → ah → Prop} {x1 : Int32} {x2 : Int32} {x3 : Int32} {x4 : Int32} {x5 : Int32} {p6 : Nat} {p7 : Nat} (q1 : Q (some (.int (1 : Int32))) h) : V G mX7_copy b 121 [some (.ref 2), some (.int x1), some (.int x2), some (.int x3), some (.int x4), some (.int x5), some (.ref (p6 + 2)), some (.ref (p7 + 2))] [] h Q := by
  refine V_iconst dX7_copy_121 ic_1 ?_
  exact V_iret dX7_copy_122 rfl (q1)
theorem cX7_copy_1 {G : gx} {d mc ms cc zz d2 mc2 ms2 : Nat} {L : List (Option Value)} {S : List Value} {h : ah} {Q Q2 : Option Value → ah → Prop} {a0 : Value} (hM : Ct G mX7_isTape d2 mc2 ms2 [a0] h Q2) (hdd : d2 < d ∧ d ≤ 9) (hrm : (S.map fun v => v.category).sum ≤ 8) (hf : cc + mc2 ≤ mc ∧ zz + ms2 ≤ ms) (kk : ∀ r h2, Q2 r h2 → V G mX7_copy (d, mc, ms, cc + mc2, zz + ms2) 4 L (r.toList ++ S) h2 Q) : V G mX7_copy (d, mc, ms, cc, zz) 1 L (a0 :: S) h Q := V_callS hM dX7_copy_1 ⟨km_X7_202, kt_X7_isTape⟩ cw_X7_isTape hdd rfl rfl hrm hf kk
theorem cX7_copy_8 {G : gx} {d mc ms cc zz d2 mc2 ms2 : Nat} {L : List (Option Value)} {S : List Value} {h : ah} {Q Q2 : Option Value → ah → Prop} {a0 : Value} (hM : Ct G mX7_isTape d2 mc2 ms2 [a0] h Q2) (hdd : d2 < d ∧ d ≤ 9) (hrm : (S.map fun v => v.category).sum ≤ 8) (hf : cc + mc2 ≤ mc ∧ zz + ms2 ≤ ms) (kk : ∀ r h2, Q2 r h2 → V G mX7_copy (d, mc, ms, cc + mc2, zz + ms2) 11 L (r.toList ++ S) h2 Q) : V G mX7_copy (d, mc, ms, cc, zz) 8 L (a0 :: S) h Q := V_callS hM dX7_copy_8 ⟨km_X7_202, kt_X7_isTape⟩ cw_X7_isTape hdd rfl rfl hrm hf kk
theorem cX7_copy_35 {G : gx} {d mc ms cc zz d2 mc2 ms2 : Nat} {L : List (Option Value)} {S : List Value} {h : ah} {Q Q2 : Option Value → ah → Prop} {k : Nat} {fs : List Value} (hM : Ct G mX5_isLost d2 mc2 ms2 (.ref (k + 2) :: []) h Q2) (hc : h (k + 2) = (5, .inl fs)) (hdd : d2 < d ∧ d ≤ 9) (hrm : (S.map fun v => v.category).sum ≤ 8) (hf : cc + mc2 ≤ mc ∧ zz + ms2 ≤ ms) (kk : ∀ r h2, Q2 r h2 → V G mX7_copy (d, mc, ms, cc + mc2, zz + ms2) 38 L (r.toList ++ S) h2 Q) : V G mX7_copy (d, mc, ms, cc, zz) 35 L (.ref (k + 2) :: S) h Q := V_callVN (ci := 5) (T := TX5) (N := 5) hM dX7_copy_35 ⟨km_X7_214, ki_X5_isLost, ks_X5_isLost⟩ cw_X5_isLost rfl hc (by decide) hdd rfl rfl hrm hf kk
theorem cX7_copy_43 {G : gx} {d mc ms cc zz d2 mc2 ms2 : Nat} {L : List (Option Value)} {S : List Value} {h : ah} {Q Q2 : Option Value → ah → Prop} {k : Nat} {fs : List Value} (hM : Ct G mX5_isLost d2 mc2 ms2 (.ref (k + 2) :: []) h Q2) (hc : h (k + 2) = (5, .inl fs)) (hdd : d2 < d ∧ d ≤ 9) (hrm : (S.map fun v => v.category).sum ≤ 8) (hf : cc + mc2 ≤ mc ∧ zz + ms2 ≤ ms) (kk : ∀ r h2, Q2 r h2 → V G mX7_copy (d, mc, ms, cc + mc2, zz + ms2) 46 L (r.toList ++ S) h2 Q) : V G mX7_copy (d, mc, ms, cc, zz) 43 L (.ref (k + 2) :: S) h Q := V_callVN (ci := 5) (T := TX5) (N := 5) hM dX7_copy_43 ⟨km_X7_214, ki_X5_isLost, ks_X5_isLost⟩ cw_X5_isLost rfl hc (by decide) hdd rfl rfl hrm hf kk
theorem cX7_copy_51 {G : gx} {d mc ms cc zz d2 mc2 ms2 : Nat} {L : List (Option Value)} {S : List Value} {h : ah} {Q Q2 : Option Value → ah → Prop} {k : Nat} {fs : List Value} {a0 : Value} (hM : Ct G mX7_finding d2 mc2 ms2 (.ref (k + 2) :: [a0]) h Q2) (hc : h (k + 2) = (7, .inl fs)) (hdd : d2 < d ∧ d ≤ 9) (hrm : (S.map fun v => v.category).sum ≤ 8) (hf : cc + mc2 ≤ mc ∧ zz + ms2 ≤ ms) (kk : ∀ r h2, Q2 r h2 → V G mX7_copy (d, mc, ms, cc + mc2, zz + ms2) 54 L (r.toList ++ S) h2 Q) : V G mX7_copy (d, mc, ms, cc, zz) 51 L (a0 :: .ref (k + 2) :: S) h Q := V_callV (ci := 7) (T := TX7) (N := 9) hM dX7_copy_51 ⟨km_X7_208, ki_X7_finding, ks_X7_finding⟩ cw_X7_finding rfl hc (by decide) hdd rfl rfl hrm hf kk
theorem cX7_copy_70 {G : gx} {d mc ms cc zz d2 mc2 ms2 : Nat} {L : List (Option Value)} {S : List Value} {h : ah} {Q Q2 : Option Value → ah → Prop} {k : Nat} {fs : List Value} {a0 : Value} (hM : Ct G mX7_finding d2 mc2 ms2 (.ref (k + 2) :: [a0]) h Q2) (hc : h (k + 2) = (7, .inl fs)) (hdd : d2 < d ∧ d ≤ 9) (hrm : (S.map fun v => v.category).sum ≤ 8) (hf : cc + mc2 ≤ mc ∧ zz + ms2 ≤ ms) (kk : ∀ r h2, Q2 r h2 → V G mX7_copy (d, mc, ms, cc + mc2, zz + ms2) 73 L (r.toList ++ S) h2 Q) : V G mX7_copy (d, mc, ms, cc, zz) 70 L (a0 :: .ref (k + 2) :: S) h Q := V_callV (ci := 7) (T := TX7) (N := 9) hM dX7_copy_70 ⟨km_X7_208, ki_X7_finding, ks_X7_finding⟩ cw_X7_finding rfl hc (by decide) hdd rfl rfl hrm hf kk
theorem cX7_copy_79 {G : gx} {d mc ms cc zz d2 mc2 ms2 : Nat} {L : List (Option Value)} {S : List Value} {h : ah} {Q Q2 : Option Value → ah → Prop} {k : Nat} {fs : List Value} {a0 a1 : Value} (hM : Ct G mX5_hasItems d2 mc2 ms2 (.ref (k + 2) :: [a0, a1]) h Q2) (hc : h (k + 2) = (5, .inl fs)) (hdd : d2 < d ∧ d ≤ 9) (hrm : (S.map fun v => v.category).sum ≤ 8) (hf : cc + mc2 ≤ mc ∧ zz + ms2 ≤ ms) (kk : ∀ r h2, Q2 r h2 → V G mX7_copy (d, mc, ms, cc + mc2, zz + ms2) 82 L (r.toList ++ S) h2 Q) : V G mX7_copy (d, mc, ms, cc, zz) 79 L (a1 :: a0 :: .ref (k + 2) :: S) h Q := V_callVN (ci := 5) (T := TX5) (N := 5) hM dX7_copy_79 ⟨km_X7_235, ki_X5_hasItems, ks_X5_hasItems⟩ cw_X5_hasItems rfl hc (by decide) hdd rfl rfl hrm hf kk
theorem cX7_copy_91 {G : gx} {d mc ms cc zz d2 mc2 ms2 : Nat} {L : List (Option Value)} {S : List Value} {h : ah} {Q Q2 : Option Value → ah → Prop} {k : Nat} {fs : List Value} {a0 a1 : Value} (hM : Ct G mX5_hasItems d2 mc2 ms2 (.ref (k + 2) :: [a0, a1]) h Q2) (hc : h (k + 2) = (5, .inl fs)) (hdd : d2 < d ∧ d ≤ 9) (hrm : (S.map fun v => v.category).sum ≤ 8) (hf : cc + mc2 ≤ mc ∧ zz + ms2 ≤ ms) (kk : ∀ r h2, Q2 r h2 → V G mX7_copy (d, mc, ms, cc + mc2, zz + ms2) 94 L (r.toList ++ S) h2 Q) : V G mX7_copy (d, mc, ms, cc, zz) 91 L (a1 :: a0 :: .ref (k + 2) :: S) h Q := V_callVN (ci := 5) (T := TX5) (N := 5) hM dX7_copy_91 ⟨km_X7_235, ki_X5_hasItems, ks_X5_hasItems⟩ cw_X5_hasItems rfl hc (by decide) hdd rfl rfl hrm hf kk
theorem cX7_copy_99 {G : gx} {d mc ms cc zz d2 mc2 ms2 : Nat} {L : List (Option Value)} {S : List Value} {h : ah} {Q Q2 : Option Value → ah → Prop} {k : Nat} {fs : List Value} {a0 : Value} (hM : Ct G mX7_finding d2 mc2 ms2 (.ref (k + 2) :: [a0]) h Q2) (hc : h (k + 2) = (7, .inl fs)) (hdd : d2 < d ∧ d ≤ 9) (hrm : (S.map fun v => v.category).sum ≤ 8) (hf : cc + mc2 ≤ mc ∧ zz + ms2 ≤ ms) (kk : ∀ r h2, Q2 r h2 → V G mX7_copy (d, mc, ms, cc + mc2, zz + ms2) 102 L (r.toList ++ S) h2 Q) : V G mX7_copy (d, mc, ms, cc, zz) 99 L (a0 :: .ref (k + 2) :: S) h Q := V_callV (ci := 7) (T := TX7) (N := 9) hM dX7_copy_99 ⟨km_X7_208, ki_X7_finding, ks_X7_finding⟩ cw_X7_finding rfl hc (by decide) hdd rfl rfl hrm hf kk
theorem tX7_print_0 {G : gx} {b : bg} {h : ah} {Q : Option Value → ah → Prop} {x1 : Int32} {x2 : Int32} {x3 : Int32} {x4 : Int32} (q1 : V G mX7_print b 1 [some (.ref 2), some (.int x1), some (.int x2), some (.int x3), some (.int x4)] [.int x1] h Q) : V G mX7_print b 0 [some (.ref 2), some (.int x1), some (.int x2), some (.int x3), some (.int x4)] [] h Q := by
  refine V_iload_n dX7_print_0 rfl rfl ?_
  exact V_sub (by exact (And.intro rfl (And.intro rfl (And.intro rfl (And.intro rfl (And.intro rfl True.intro)))))) (q1)
theorem tX7_print_4 {G : gx} {b : bg} {h : ah} {Q : Option Value → ah → Prop} {x1 : Int32} {x2 : Int32} {x3 : Int32} {x4 : Int32} {s0 : Int32} {ufirstFound : Int32} {ulatestFinding : Int32} {wletters : Int32} {wlength : Int32} {wall : Int32} {whigh : Int32} (g2 : h 2 = (7, .inl [.ref 3, .ref 5, .ref 9, .ref 17, .ref 23, .ref 36, .ref 38, .int ufirstFound, .int ulatestFinding])) (g3 : h 3 = (6, .inl [.ref 4, .int wletters, .int wlength, .int wall, .int whigh])) (q1 : (s0 = (0 : Int32)) → Q (some (.int (-2 : Int32))) h) (q2 : (¬ s0 = (0 : Int32)) → (x3 < (0 : Int32)) → Q (some (.int (-2 : Int32))) h) (q3 : (¬ s0 = (0 : Int32)) → (¬ x3 < (0 : Int32)) → (wall ≤ x3) → Q (some (.int (-2 : Int32))) h) (q4 : (¬ s0 = (0 : Int32)) → (¬ x3 < (0 : Int32)) → (¬ wall ≤ x3) → ((0 : Int32) ≤ x4) → V G mX7_print b 34 [some (.ref 2), some (.int x1), some (.int x2), some (.int x3), some (.int x4)] [.ref 17] h Q) (q5 : (¬ s0 = (0 : Int32)) → (¬ x3 < (0 : Int32)) → (¬ wall ≤ x3) → (¬ (0 : Int32) ≤ x4) → Q (some (.int (-2 : Int32))) h) : V G mX7_print b 4 [some (.ref 2), some (.int x1), some (.int x2), some (.int x3), some (.int x4)] [.int s0] h Q := by
  refine V_if_eq (t := 27) dX7_print_4 (by decide) (fun z1 => ?_) (fun z1 => ?_)
  ·
    refine V_bipush dX7_print_27 bp_m2 ?_
    exact V_iret dX7_print_29 rfl (q1 z1)
  ·
    refine V_iload_n dX7_print_7 rfl rfl ?_
    refine V_if_lt (t := 27) dX7_print_8 (by decide) (fun z2 => ?_) (fun z2 => ?_)
    ·
      refine V_bipush dX7_print_27 bp_m2 ?_
      exact V_iret dX7_print_29 rfl (q2 z1 z2)
    ·
      refine V_iload_n dX7_print_11 rfl rfl ?_
      refine V_aload_n dX7_print_12 rfl rfl ?_
      refine V_get (ci := 7) (j := 0) (C0 := RX7) (T := TX7) (N := 9) dX7_print_13 rfl g2 (by decide) (by decide) kf_X7_10 rfl ?_
      refine V_getN (ci := 6) (j := 3) (C0 := RX6) (T := TX6) (N := 5) dX7_print_16 rfl g3 (by decide) (by decide) kf_X7_101 rfl ?_
      refine V_icmp_ge (t := 27) dX7_print_19 (by decide) (fun z3 => ?_) (fun z3 => ?_)
      ·
        refine V_bipush dX7_print_27 bp_m2 ?_
        exact V_iret dX7_print_29 rfl (q3 z1 z2 z3)
      ·
        refine V_iload dX7_print_22 rfl ?_
        refine V_if_ge (t := 30) dX7_print_24 (by decide) (fun z4 => ?_) (fun z4 => ?_)
        ·
          refine V_aload_n dX7_print_30 rfl rfl ?_
          refine V_get (ci := 7) (j := 3) (C0 := RX7) (T := TX7) (N := 9) dX7_print_31 rfl g2 (by decide) (by decide) kf_X7_35 rfl ?_
          exact V_sub (by exact (And.intro rfl (And.intro rfl (And.intro rfl (And.intro rfl (And.intro rfl True.intro)))))) (q4 z1 z2 z3 z4)
        ·
          refine V_bipush dX7_print_27 bp_m2 ?_
          exact V_iret dX7_print_29 rfl (q5 z1 z2 z3 z4)
theorem tX7_print_37 {G : gx} {b : bg} {h : ah} {Q : Option Value → ah → Prop} {x1 : Int32} {x2 : Int32} {x3 : Int32} {x4 : Int32} {s0 : Int32} {ufirstFound : Int32} {ulatestFinding : Int32} {utape : Nat → Option Nat} {ta : Nat} (g2 : h 2 = (7, .inl [.ref 3, .ref 5, .ref 9, .ref 17, .ref 23, .ref 36, .ref 38, .int ufirstFound, .int ulatestFinding])) (g23 : h 23 = (4, .inr (4, .inr (.inr utape)))) (q1 : (¬ s0 = (0 : Int32)) → vp_in x1 4) (q2 : (¬ s0 = (0 : Int32)) → utape x1.toNatClampNeg = some (ta + 2)) (q3 : (¬ s0 = (0 : Int32)) → V G mX7_print b 49 [some (.ref 2), some (.int x1), some (.int x2), some (.int x3), some (.int x4)] [.ref (ta + 2)] h Q) (q4 : (s0 = (0 : Int32)) → Q (some (.int (-3 : Int32))) h) : V G mX7_print b 37 [some (.ref 2), some (.int x1), some (.int x2), some (.int x3), some (.int x4)] [.int s0] h Q := by
  refine V_if_ne (t := 43) dX7_print_37 (by decide) (fun z1 => ?_) (fun z1 => ?_)
  ·
    refine V_aload_n dX7_print_43 rfl rfl ?_
    refine V_get (ci := 7) (j := 4) (C0 := RX7) (T := TX7) (N := 9) dX7_print_44 rfl g2 (by decide) (by decide) kf_X7_41 rfl ?_
    refine V_iload_n dX7_print_47 rfl rfl ?_
    refine V_aald dX7_print_48 g23 (q1 z1) (q2 z1) ?_
    exact V_sub (by exact (And.intro rfl (And.intro rfl (And.intro rfl (And.intro rfl (And.intro rfl True.intro)))))) (q3 z1)
  ·
    refine V_bipush dX7_print_40 bp_m3 ?_
    exact V_iret dX7_print_42 rfl (q4 z1)
theorem tX7_print_52 {G : gx} {b : bg} {h : ah} {Q : Option Value → ah → Prop} {x1 : Int32} {x2 : Int32} {x3 : Int32} {x4 : Int32} {s0 : Int32} {ufirstFound : Int32} {ulatestFinding : Int32} {utape : Nat → Option Nat} {ta : Nat} (g2 : h 2 = (7, .inl [.ref 3, .ref 5, .ref 9, .ref 17, .ref 23, .ref 36, .ref 38, .int ufirstFound, .int ulatestFinding])) (g23 : h 23 = (4, .inr (4, .inr (.inr utape)))) (q1 : (s0 = (0 : Int32)) → vp_in x1 4) (q2 : (s0 = (0 : Int32)) → utape x1.toNatClampNeg = some (ta + 2)) (q3 : (s0 = (0 : Int32)) → V G mX7_print b 70 [some (.ref 2), some (.int x1), some (.int x2), some (.int x3), some (.int x4)] [.int x4, .int x2, .ref (ta + 2)] h Q) (q4 : (¬ s0 = (0 : Int32)) → V G mX7_print b 57 [some (.ref 2), some (.int x1), some (.int x2), some (.int x3), some (.int x4)] [.int (1 : Int32), .ref 2] h Q) : V G mX7_print b 52 [some (.ref 2), some (.int x1), some (.int x2), some (.int x3), some (.int x4)] [.int s0] h Q := by
  refine V_if_eq (t := 61) dX7_print_52 (by decide) (fun z1 => ?_) (fun z1 => ?_)
  ·
    refine V_aload_n dX7_print_61 rfl rfl ?_
    refine V_get (ci := 7) (j := 4) (C0 := RX7) (T := TX7) (N := 9) dX7_print_62 rfl g2 (by decide) (by decide) kf_X7_41 rfl ?_
    refine V_iload_n dX7_print_65 rfl rfl ?_
    refine V_aald dX7_print_66 g23 (q1 z1) (q2 z1) ?_
    refine V_iload_n dX7_print_67 rfl rfl ?_
    refine V_iload dX7_print_68 rfl ?_
    exact V_sub (by exact (And.intro rfl (And.intro rfl (And.intro rfl (And.intro rfl (And.intro rfl True.intro)))))) (q3 z1)
  ·
    refine V_aload_n dX7_print_55 rfl rfl ?_
    refine V_iconst dX7_print_56 ic_1 ?_
    exact V_sub (by exact (And.intro rfl (And.intro rfl (And.intro rfl (And.intro rfl (And.intro rfl True.intro)))))) (q4 z1)
theorem tX7_print_60 {G : gx} {b : bg} {h : ah} {Q : Option Value → ah → Prop} {x1 : Int32} {x2 : Int32} {x3 : Int32} {x4 : Int32} {s0 : Int32} (q1 : Q (some (.int s0)) h) : V G mX7_print b 60 [some (.ref 2), some (.int x1), some (.int x2), some (.int x3), some (.int x4)] [.int s0] h Q := by
  exact V_iret dX7_print_60 rfl (q1)
theorem tX7_print_73 {G : gx} {b : bg} {h : ah} {Q : Option Value → ah → Prop} {x1 : Int32} {x2 : Int32} {x3 : Int32} {x4 : Int32} {s0 : Int32} {ufirstFound : Int32} {ulatestFinding : Int32} {utape : Nat → Option Nat} {ta : Nat} {ti : Nat} {tb : Nat} {tform : Int32} {tlength : Int32} (g2 : h 2 = (7, .inl [.ref 3, .ref 5, .ref 9, .ref 17, .ref 23, .ref 36, .ref 38, .int ufirstFound, .int ulatestFinding])) (g23 : h 23 = (4, .inr (4, .inr (.inr utape)))) (gta2 : h (ta + 2) = (5, .inl [.ref 3, .ref (ti + 2), .int tform, .int tlength, .ref (tb + 2)])) (q1 : (¬ s0 = (0 : Int32)) → vp_in x1 4) (q2 : (¬ s0 = (0 : Int32)) → utape x1.toNatClampNeg = some (ta + 2)) (q3 : (¬ s0 = (0 : Int32)) → V G mX7_print b 99 [some (.ref 2), some (.int x1), some (.int x2), some (.int x3), some (.int x4)] [.int x2, .ref (ti + 2), .int x4, .int x3, .ref 17] h Q) (q4 : (s0 = (0 : Int32)) → V G mX7_print b 78 [some (.ref 2), some (.int x1), some (.int x2), some (.int x3), some (.int x4)] [.int (2 : Int32), .ref 2] h Q) : V G mX7_print b 73 [some (.ref 2), some (.int x1), some (.int x2), some (.int x3), some (.int x4)] [.int s0] h Q := by
  refine V_if_ne (t := 82) dX7_print_73 (by decide) (fun z1 => ?_) (fun z1 => ?_)
  ·
    refine V_aload_n dX7_print_82 rfl rfl ?_
    refine V_get (ci := 7) (j := 3) (C0 := RX7) (T := TX7) (N := 9) dX7_print_83 rfl g2 (by decide) (by decide) kf_X7_35 rfl ?_
    refine V_iload_n dX7_print_86 rfl rfl ?_
    refine V_iload dX7_print_87 rfl ?_
    refine V_aload_n dX7_print_89 rfl rfl ?_
    refine V_get (ci := 7) (j := 4) (C0 := RX7) (T := TX7) (N := 9) dX7_print_90 rfl g2 (by decide) (by decide) kf_X7_41 rfl ?_
    refine V_iload_n dX7_print_93 rfl rfl ?_
    refine V_aald dX7_print_94 g23 (q1 z1) (q2 z1) ?_
    refine V_getN (ci := 5) (j := 1) (C0 := RX5) (T := TX5) (N := 5) dX7_print_95 rfl gta2 (by decide) (by decide) kf_X7_223 rfl ?_
    refine V_iload_n dX7_print_98 rfl rfl ?_
    exact V_sub (by exact (And.intro rfl (And.intro rfl (And.intro rfl (And.intro rfl (And.intro rfl True.intro)))))) (q3 z1)
  ·
    refine V_aload_n dX7_print_76 rfl rfl ?_
    refine V_iconst dX7_print_77 ic_2 ?_
    exact V_sub (by exact (And.intro rfl (And.intro rfl (And.intro rfl (And.intro rfl (And.intro rfl True.intro)))))) (q4 z1)
theorem tX7_print_81 {G : gx} {b : bg} {h : ah} {Q : Option Value → ah → Prop} {x1 : Int32} {x2 : Int32} {x3 : Int32} {x4 : Int32} {s0 : Int32} (q1 : Q (some (.int s0)) h) : V G mX7_print b 81 [some (.ref 2), some (.int x1), some (.int x2), some (.int x3), some (.int x4)] [.int s0] h Q := by
  exact V_iret dX7_print_81 rfl (q1)
theorem tX7_print_102 {G : gx} {b : bg} {h : ah} {Q : Option Value → ah → Prop} {x1 : Int32} {x2 : Int32} {x3 : Int32} {x4 : Int32} (q1 : Q (some (.int x4)) h) : V G mX7_print b 102 [some (.ref 2), some (.int x1), some (.int x2), some (.int x3), some (.int x4)] [] h Q := by
  refine V_iload dX7_print_102 rfl ?_
  exact V_iret dX7_print_104 rfl (q1)
theorem cX7_print_1 {G : gx} {d mc ms cc zz d2 mc2 ms2 : Nat} {L : List (Option Value)} {S : List Value} {h : ah} {Q Q2 : Option Value → ah → Prop} {a0 : Value} (hM : Ct G mX7_isTape d2 mc2 ms2 [a0] h Q2) (hdd : d2 < d ∧ d ≤ 9) (hrm : (S.map fun v => v.category).sum ≤ 8) (hf : cc + mc2 ≤ mc ∧ zz + ms2 ≤ ms) (kk : ∀ r h2, Q2 r h2 → V G mX7_print (d, mc, ms, cc + mc2, zz + ms2) 4 L (r.toList ++ S) h2 Q) : V G mX7_print (d, mc, ms, cc, zz) 1 L (a0 :: S) h Q := V_callS hM dX7_print_1 ⟨km_X7_202, kt_X7_isTape⟩ cw_X7_isTape hdd rfl rfl hrm hf kk
theorem cX7_print_34 {G : gx} {d mc ms cc zz d2 mc2 ms2 : Nat} {L : List (Option Value)} {S : List Value} {h : ah} {Q Q2 : Option Value → ah → Prop} {k : Nat} {fs : List Value} (hM : Ct G mX4_isThere d2 mc2 ms2 (.ref (k + 2) :: []) h Q2) (hc : h (k + 2) = (4, .inl fs)) (hdd : d2 < d ∧ d ≤ 9) (hrm : (S.map fun v => v.category).sum ≤ 8) (hf : cc + mc2 ≤ mc ∧ zz + ms2 ≤ ms) (kk : ∀ r h2, Q2 r h2 → V G mX7_print (d, mc, ms, cc + mc2, zz + ms2) 37 L (r.toList ++ S) h2 Q) : V G mX7_print (d, mc, ms, cc, zz) 34 L (.ref (k + 2) :: S) h Q := V_callVN (ci := 4) (T := TX4) (N := 8) hM dX7_print_34 ⟨km_X7_195, ki_X4_isThere, ks_X4_isThere⟩ cw_X4_isThere rfl hc (by decide) hdd rfl rfl hrm hf kk
theorem cX7_print_49 {G : gx} {d mc ms cc zz d2 mc2 ms2 : Nat} {L : List (Option Value)} {S : List Value} {h : ah} {Q Q2 : Option Value → ah → Prop} {k : Nat} {fs : List Value} (hM : Ct G mX5_isLost d2 mc2 ms2 (.ref (k + 2) :: []) h Q2) (hc : h (k + 2) = (5, .inl fs)) (hdd : d2 < d ∧ d ≤ 9) (hrm : (S.map fun v => v.category).sum ≤ 8) (hf : cc + mc2 ≤ mc ∧ zz + ms2 ≤ ms) (kk : ∀ r h2, Q2 r h2 → V G mX7_print (d, mc, ms, cc + mc2, zz + ms2) 52 L (r.toList ++ S) h2 Q) : V G mX7_print (d, mc, ms, cc, zz) 49 L (.ref (k + 2) :: S) h Q := V_callVN (ci := 5) (T := TX5) (N := 5) hM dX7_print_49 ⟨km_X7_214, ki_X5_isLost, ks_X5_isLost⟩ cw_X5_isLost rfl hc (by decide) hdd rfl rfl hrm hf kk
theorem cX7_print_57 {G : gx} {d mc ms cc zz d2 mc2 ms2 : Nat} {L : List (Option Value)} {S : List Value} {h : ah} {Q Q2 : Option Value → ah → Prop} {k : Nat} {fs : List Value} {a0 : Value} (hM : Ct G mX7_finding d2 mc2 ms2 (.ref (k + 2) :: [a0]) h Q2) (hc : h (k + 2) = (7, .inl fs)) (hdd : d2 < d ∧ d ≤ 9) (hrm : (S.map fun v => v.category).sum ≤ 8) (hf : cc + mc2 ≤ mc ∧ zz + ms2 ≤ ms) (kk : ∀ r h2, Q2 r h2 → V G mX7_print (d, mc, ms, cc + mc2, zz + ms2) 60 L (r.toList ++ S) h2 Q) : V G mX7_print (d, mc, ms, cc, zz) 57 L (a0 :: .ref (k + 2) :: S) h Q := V_callV (ci := 7) (T := TX7) (N := 9) hM dX7_print_57 ⟨km_X7_208, ki_X7_finding, ks_X7_finding⟩ cw_X7_finding rfl hc (by decide) hdd rfl rfl hrm hf kk
theorem cX7_print_70 {G : gx} {d mc ms cc zz d2 mc2 ms2 : Nat} {L : List (Option Value)} {S : List Value} {h : ah} {Q Q2 : Option Value → ah → Prop} {k : Nat} {fs : List Value} {a0 a1 : Value} (hM : Ct G mX5_hasItems d2 mc2 ms2 (.ref (k + 2) :: [a0, a1]) h Q2) (hc : h (k + 2) = (5, .inl fs)) (hdd : d2 < d ∧ d ≤ 9) (hrm : (S.map fun v => v.category).sum ≤ 8) (hf : cc + mc2 ≤ mc ∧ zz + ms2 ≤ ms) (kk : ∀ r h2, Q2 r h2 → V G mX7_print (d, mc, ms, cc + mc2, zz + ms2) 73 L (r.toList ++ S) h2 Q) : V G mX7_print (d, mc, ms, cc, zz) 70 L (a1 :: a0 :: .ref (k + 2) :: S) h Q := V_callVN (ci := 5) (T := TX5) (N := 5) hM dX7_print_70 ⟨km_X7_235, ki_X5_hasItems, ks_X5_hasItems⟩ cw_X5_hasItems rfl hc (by decide) hdd rfl rfl hrm hf kk
theorem cX7_print_78 {G : gx} {d mc ms cc zz d2 mc2 ms2 : Nat} {L : List (Option Value)} {S : List Value} {h : ah} {Q Q2 : Option Value → ah → Prop} {k : Nat} {fs : List Value} {a0 : Value} (hM : Ct G mX7_finding d2 mc2 ms2 (.ref (k + 2) :: [a0]) h Q2) (hc : h (k + 2) = (7, .inl fs)) (hdd : d2 < d ∧ d ≤ 9) (hrm : (S.map fun v => v.category).sum ≤ 8) (hf : cc + mc2 ≤ mc ∧ zz + ms2 ≤ ms) (kk : ∀ r h2, Q2 r h2 → V G mX7_print (d, mc, ms, cc + mc2, zz + ms2) 81 L (r.toList ++ S) h2 Q) : V G mX7_print (d, mc, ms, cc, zz) 78 L (a0 :: .ref (k + 2) :: S) h Q := V_callV (ci := 7) (T := TX7) (N := 9) hM dX7_print_78 ⟨km_X7_208, ki_X7_finding, ks_X7_finding⟩ cw_X7_finding rfl hc (by decide) hdd rfl rfl hrm hf kk
theorem cX7_print_99 {G : gx} {d mc ms cc zz d2 mc2 ms2 : Nat} {L : List (Option Value)} {S : List Value} {h : ah} {Q Q2 : Option Value → ah → Prop} {k : Nat} {fs : List Value} {a0 a1 a2 a3 : Value} (hM : Ct G mX4_writeLetters d2 mc2 ms2 (.ref (k + 2) :: [a0, a1, a2, a3]) h Q2) (hc : h (k + 2) = (4, .inl fs)) (hdd : d2 < d ∧ d ≤ 9) (hrm : (S.map fun v => v.category).sum ≤ 8) (hf : cc + mc2 ≤ mc ∧ zz + ms2 ≤ ms) (kk : ∀ r h2, Q2 r h2 → V G mX7_print (d, mc, ms, cc + mc2, zz + ms2) 102 L (r.toList ++ S) h2 Q) : V G mX7_print (d, mc, ms, cc, zz) 99 L (a3 :: a2 :: a1 :: a0 :: .ref (k + 2) :: S) h Q := V_callVN (ci := 4) (T := TX4) (N := 8) hM dX7_print_99 ⟨km_X7_244, ki_X4_writeLetters, ks_X4_writeLetters⟩ cw_X4_writeLetters rfl hc (by decide) hdd rfl rfl hrm hf kk
theorem tX7_find_0 {G : gx} {b : bg} {h : ah} {Q : Option Value → ah → Prop} {x1 : Int32} {x2 : Int32} {x3 : Int32} {x4 : Int32} (q1 : V G mX7_find b 1 [some (.ref 2), some (.int x1), some (.int x2), some (.int x3), some (.int x4)] [.int x1] h Q) : V G mX7_find b 0 [some (.ref 2), some (.int x1), some (.int x2), some (.int x3), some (.int x4)] [] h Q := by
  refine V_iload_n dX7_find_0 rfl rfl ?_
  exact V_sub (by exact (And.intro rfl (And.intro rfl (And.intro rfl (And.intro rfl (And.intro rfl True.intro)))))) (q1)
theorem tX7_find_4 {G : gx} {b : bg} {h : ah} {Q : Option Value → ah → Prop} {x1 : Int32} {x2 : Int32} {x3 : Int32} {x4 : Int32} {s0 : Int32} {ufirstFound : Int32} {ulatestFinding : Int32} (g2 : h 2 = (7, .inl [.ref 3, .ref 5, .ref 9, .ref 17, .ref 23, .ref 36, .ref 38, .int ufirstFound, .int ulatestFinding])) (q1 : (s0 = (0 : Int32)) → Q (some (.int (-2 : Int32))) h) (q2 : (¬ s0 = (0 : Int32)) → (x3 < (1 : Int32)) → Q (some (.int (-2 : Int32))) h) (q3 : (¬ s0 = (0 : Int32)) → (¬ x3 < (1 : Int32)) → ((40 : Int32) < x3) → Q (some (.int (-2 : Int32))) h) (q4 : (¬ s0 = (0 : Int32)) → (¬ x3 < (1 : Int32)) → (¬ (40 : Int32) < x3) → (x4 < (0 : Int32)) → Q (some (.int (-2 : Int32))) h) (q5 : (¬ s0 = (0 : Int32)) → (¬ x3 < (1 : Int32)) → (¬ (40 : Int32) < x3) → (¬ x4 < (0 : Int32)) → (x4 ≤ (40 : Int32)) → V G mX7_find b 37 [some (.ref 2), some (.int x1), some (.int x2), some (.int x3), some (.int x4)] [.ref 17] h Q) (q6 : (¬ s0 = (0 : Int32)) → (¬ x3 < (1 : Int32)) → (¬ (40 : Int32) < x3) → (¬ x4 < (0 : Int32)) → (¬ x4 ≤ (40 : Int32)) → Q (some (.int (-2 : Int32))) h) : V G mX7_find b 4 [some (.ref 2), some (.int x1), some (.int x2), some (.int x3), some (.int x4)] [.int s0] h Q := by
  refine V_if_eq (t := 30) dX7_find_4 (by decide) (fun z1 => ?_) (fun z1 => ?_)
  ·
    refine V_bipush dX7_find_30 bp_m2 ?_
    exact V_iret dX7_find_32 rfl (q1 z1)
  ·
    refine V_iload_n dX7_find_7 rfl rfl ?_
    refine V_iconst dX7_find_8 ic_1 ?_
    refine V_icmp_lt (t := 30) dX7_find_9 (by decide) (fun z2 => ?_) (fun z2 => ?_)
    ·
      refine V_bipush dX7_find_30 bp_m2 ?_
      exact V_iret dX7_find_32 rfl (q2 z1 z2)
    ·
      refine V_iload_n dX7_find_12 rfl rfl ?_
      refine V_bipush dX7_find_13 bp_40 ?_
      refine V_icmp_gt (t := 30) dX7_find_15 (by decide) (fun z3 => ?_) (fun z3 => ?_)
      ·
        refine V_bipush dX7_find_30 bp_m2 ?_
        exact V_iret dX7_find_32 rfl (q3 z1 z2 z3)
      ·
        refine V_iload dX7_find_18 rfl ?_
        refine V_if_lt (t := 30) dX7_find_20 (by decide) (fun z4 => ?_) (fun z4 => ?_)
        ·
          refine V_bipush dX7_find_30 bp_m2 ?_
          exact V_iret dX7_find_32 rfl (q4 z1 z2 z3 z4)
        ·
          refine V_iload dX7_find_23 rfl ?_
          refine V_bipush dX7_find_25 bp_40 ?_
          refine V_icmp_le (t := 33) dX7_find_27 (by decide) (fun z5 => ?_) (fun z5 => ?_)
          ·
            refine V_aload_n dX7_find_33 rfl rfl ?_
            refine V_get (ci := 7) (j := 3) (C0 := RX7) (T := TX7) (N := 9) dX7_find_34 rfl g2 (by decide) (by decide) kf_X7_35 rfl ?_
            exact V_sub (by exact (And.intro rfl (And.intro rfl (And.intro rfl (And.intro rfl (And.intro rfl True.intro)))))) (q5 z1 z2 z3 z4 z5)
          ·
            refine V_bipush dX7_find_30 bp_m2 ?_
            exact V_iret dX7_find_32 rfl (q6 z1 z2 z3 z4 z5)
theorem tX7_find_40 {G : gx} {b : bg} {h : ah} {Q : Option Value → ah → Prop} {x1 : Int32} {x2 : Int32} {x3 : Int32} {x4 : Int32} {s0 : Int32} {ufirstFound : Int32} {ulatestFinding : Int32} {utape : Nat → Option Nat} {ta : Nat} (g2 : h 2 = (7, .inl [.ref 3, .ref 5, .ref 9, .ref 17, .ref 23, .ref 36, .ref 38, .int ufirstFound, .int ulatestFinding])) (g23 : h 23 = (4, .inr (4, .inr (.inr utape)))) (q1 : (¬ s0 = (0 : Int32)) → vp_in x1 4) (q2 : (¬ s0 = (0 : Int32)) → utape x1.toNatClampNeg = some (ta + 2)) (q3 : (¬ s0 = (0 : Int32)) → V G mX7_find b 52 [some (.ref 2), some (.int x1), some (.int x2), some (.int x3), some (.int x4)] [.ref (ta + 2)] h Q) (q4 : (s0 = (0 : Int32)) → Q (some (.int (-3 : Int32))) h) : V G mX7_find b 40 [some (.ref 2), some (.int x1), some (.int x2), some (.int x3), some (.int x4)] [.int s0] h Q := by
  refine V_if_ne (t := 46) dX7_find_40 (by decide) (fun z1 => ?_) (fun z1 => ?_)
  ·
    refine V_aload_n dX7_find_46 rfl rfl ?_
    refine V_get (ci := 7) (j := 4) (C0 := RX7) (T := TX7) (N := 9) dX7_find_47 rfl g2 (by decide) (by decide) kf_X7_41 rfl ?_
    refine V_iload_n dX7_find_50 rfl rfl ?_
    refine V_aald dX7_find_51 g23 (q1 z1) (q2 z1) ?_
    exact V_sub (by exact (And.intro rfl (And.intro rfl (And.intro rfl (And.intro rfl (And.intro rfl True.intro)))))) (q3 z1)
  ·
    refine V_bipush dX7_find_43 bp_m3 ?_
    exact V_iret dX7_find_45 rfl (q4 z1)
theorem tX7_find_55 {G : gx} {b : bg} {h : ah} {Q : Option Value → ah → Prop} {x1 : Int32} {x2 : Int32} {x3 : Int32} {x4 : Int32} {s0 : Int32} {ufirstFound : Int32} {ulatestFinding : Int32} {utape : Nat → Option Nat} {ta : Nat} (g2 : h 2 = (7, .inl [.ref 3, .ref 5, .ref 9, .ref 17, .ref 23, .ref 36, .ref 38, .int ufirstFound, .int ulatestFinding])) (g23 : h 23 = (4, .inr (4, .inr (.inr utape)))) (q1 : (s0 = (0 : Int32)) → vp_in x1 4) (q2 : (s0 = (0 : Int32)) → utape x1.toNatClampNeg = some (ta + 2)) (q3 : (s0 = (0 : Int32)) → V G mX7_find b 72 [some (.ref 2), some (.int x1), some (.int x2), some (.int x3), some (.int x4)] [.int x3, .int x2, .ref (ta + 2)] h Q) (q4 : (¬ s0 = (0 : Int32)) → V G mX7_find b 60 [some (.ref 2), some (.int x1), some (.int x2), some (.int x3), some (.int x4)] [.int (1 : Int32), .ref 2] h Q) : V G mX7_find b 55 [some (.ref 2), some (.int x1), some (.int x2), some (.int x3), some (.int x4)] [.int s0] h Q := by
  refine V_if_eq (t := 64) dX7_find_55 (by decide) (fun z1 => ?_) (fun z1 => ?_)
  ·
    refine V_aload_n dX7_find_64 rfl rfl ?_
    refine V_get (ci := 7) (j := 4) (C0 := RX7) (T := TX7) (N := 9) dX7_find_65 rfl g2 (by decide) (by decide) kf_X7_41 rfl ?_
    refine V_iload_n dX7_find_68 rfl rfl ?_
    refine V_aald dX7_find_69 g23 (q1 z1) (q2 z1) ?_
    refine V_iload_n dX7_find_70 rfl rfl ?_
    refine V_iload_n dX7_find_71 rfl rfl ?_
    exact V_sub (by exact (And.intro rfl (And.intro rfl (And.intro rfl (And.intro rfl (And.intro rfl True.intro)))))) (q3 z1)
  ·
    refine V_aload_n dX7_find_58 rfl rfl ?_
    refine V_iconst dX7_find_59 ic_1 ?_
    exact V_sub (by exact (And.intro rfl (And.intro rfl (And.intro rfl (And.intro rfl (And.intro rfl True.intro)))))) (q4 z1)
theorem tX7_find_63 {G : gx} {b : bg} {h : ah} {Q : Option Value → ah → Prop} {x1 : Int32} {x2 : Int32} {x3 : Int32} {x4 : Int32} {s0 : Int32} (q1 : Q (some (.int s0)) h) : V G mX7_find b 63 [some (.ref 2), some (.int x1), some (.int x2), some (.int x3), some (.int x4)] [.int s0] h Q := by
  exact V_iret dX7_find_63 rfl (q1)
theorem tX7_find_75 {G : gx} {b : bg} {h : ah} {Q : Option Value → ah → Prop} {x1 : Int32} {x2 : Int32} {x3 : Int32} {x4 : Int32} {s0 : Int32} {ufirstFound : Int32} {ulatestFinding : Int32} {utape : Nat → Option Nat} {ta : Nat} {ti : Nat} {tb : Nat} {tform : Int32} {tlength : Int32} (g2 : h 2 = (7, .inl [.ref 3, .ref 5, .ref 9, .ref 17, .ref 23, .ref 36, .ref 38, .int ufirstFound, .int ulatestFinding])) (g23 : h 23 = (4, .inr (4, .inr (.inr utape)))) (gta2 : h (ta + 2) = (5, .inl [.ref 3, .ref (ti + 2), .int tform, .int tlength, .ref (tb + 2)])) (q1 : (¬ s0 = (0 : Int32)) → vp_in x1 4) (q2 : (¬ s0 = (0 : Int32)) → utape x1.toNatClampNeg = some (ta + 2)) (q3 : (¬ s0 = (0 : Int32)) → V G mX7_find b 101 [some (.ref 2), some (.int x1), some (.int x2), some (.int x3), some (.int x4)] [.int x4, .int x3, .int x2, .ref (ti + 2), .ref 17] h Q) (q4 : (s0 = (0 : Int32)) → V G mX7_find b 80 [some (.ref 2), some (.int x1), some (.int x2), some (.int x3), some (.int x4)] [.int (2 : Int32), .ref 2] h Q) : V G mX7_find b 75 [some (.ref 2), some (.int x1), some (.int x2), some (.int x3), some (.int x4)] [.int s0] h Q := by
  refine V_if_ne (t := 84) dX7_find_75 (by decide) (fun z1 => ?_) (fun z1 => ?_)
  ·
    refine V_aload_n dX7_find_84 rfl rfl ?_
    refine V_get (ci := 7) (j := 3) (C0 := RX7) (T := TX7) (N := 9) dX7_find_85 rfl g2 (by decide) (by decide) kf_X7_35 rfl ?_
    refine V_aload_n dX7_find_88 rfl rfl ?_
    refine V_get (ci := 7) (j := 4) (C0 := RX7) (T := TX7) (N := 9) dX7_find_89 rfl g2 (by decide) (by decide) kf_X7_41 rfl ?_
    refine V_iload_n dX7_find_92 rfl rfl ?_
    refine V_aald dX7_find_93 g23 (q1 z1) (q2 z1) ?_
    refine V_getN (ci := 5) (j := 1) (C0 := RX5) (T := TX5) (N := 5) dX7_find_94 rfl gta2 (by decide) (by decide) kf_X7_223 rfl ?_
    refine V_iload_n dX7_find_97 rfl rfl ?_
    refine V_iload_n dX7_find_98 rfl rfl ?_
    refine V_iload dX7_find_99 rfl ?_
    exact V_sub (by exact (And.intro rfl (And.intro rfl (And.intro rfl (And.intro rfl (And.intro rfl True.intro)))))) (q3 z1)
  ·
    refine V_aload_n dX7_find_78 rfl rfl ?_
    refine V_iconst dX7_find_79 ic_2 ?_
    exact V_sub (by exact (And.intro rfl (And.intro rfl (And.intro rfl (And.intro rfl (And.intro rfl True.intro)))))) (q4 z1)
theorem tX7_find_83 {G : gx} {b : bg} {h : ah} {Q : Option Value → ah → Prop} {x1 : Int32} {x2 : Int32} {x3 : Int32} {x4 : Int32} {s0 : Int32} (q1 : Q (some (.int s0)) h) : V G mX7_find b 83 [some (.ref 2), some (.int x1), some (.int x2), some (.int x3), some (.int x4)] [.int s0] h Q := by
  exact V_iret dX7_find_83 rfl (q1)
theorem tX7_find_104 {G : gx} {b : bg} {h : ah} {Q : Option Value → ah → Prop} {x1 : Int32} {x2 : Int32} {x3 : Int32} {x4 : Int32} {s0 : Int32} {ufirstFound : Int32} {ulatestFinding : Int32} {okind : Int32} {ofirstMatch : Int32} (g2 : h 2 = (7, .inl [.ref 3, .ref 5, .ref 9, .ref 17, .ref 23, .ref 36, .ref 38, .int ufirstFound, .int ulatestFinding])) (g17 : h 17 = (4, .inl [.ref 3, .ref 18, .ref 19, .int okind, .ref 20, .ref 21, .ref 22, .int ofirstMatch])) (q1 : (s0 ≤ (0 : Int32)) → Q (some (.int s0)) h) (q2 : (¬ s0 ≤ (0 : Int32)) → Q (some (.int s0)) (va_up h 2 (7, .inl [.ref 3, .ref 5, .ref 9, .ref 17, .ref 23, .ref 36, .ref 38, .int ofirstMatch, .int ulatestFinding]))) : V G mX7_find b 104 [some (.ref 2), some (.int x1), some (.int x2), some (.int x3), some (.int x4)] [.int s0] h Q := by
  refine V_istore dX7_find_104 (Nat.le_of_ble_eq_true rfl) ?_
  refine V_iload dX7_find_106 rfl ?_
  refine V_if_le (t := 122) dX7_find_108 (by decide) (fun z1 => ?_) (fun z1 => ?_)
  ·
    refine V_iload dX7_find_122 rfl ?_
    exact V_iret dX7_find_124 rfl (q1 z1)
  ·
    refine V_aload_n dX7_find_111 rfl rfl ?_
    refine V_aload_n dX7_find_112 rfl rfl ?_
    refine V_get (ci := 7) (j := 3) (C0 := RX7) (T := TX7) (N := 9) dX7_find_113 rfl g2 (by decide) (by decide) kf_X7_35 rfl ?_
    refine V_getN (ci := 4) (j := 7) (C0 := RX4) (T := TX4) (N := 8) dX7_find_116 rfl g17 (by decide) (by decide) kf_X7_252 rfl ?_
    refine V_put (ci := 7) (j := 7) (C0 := RX7) (T := TX7) (N := 9) (ty := .int) dX7_find_119 rfl g2 (by decide) (by decide) kf_X7_60 rfl (by decide +kernel) rfl rfl (Nat.le_of_ble_eq_true rfl) ?_
    refine V_iload dX7_find_122 rfl ?_
    exact V_iret dX7_find_124 rfl (q2 z1)
theorem cX7_find_1 {G : gx} {d mc ms cc zz d2 mc2 ms2 : Nat} {L : List (Option Value)} {S : List Value} {h : ah} {Q Q2 : Option Value → ah → Prop} {a0 : Value} (hM : Ct G mX7_isTape d2 mc2 ms2 [a0] h Q2) (hdd : d2 < d ∧ d ≤ 9) (hrm : (S.map fun v => v.category).sum ≤ 8) (hf : cc + mc2 ≤ mc ∧ zz + ms2 ≤ ms) (kk : ∀ r h2, Q2 r h2 → V G mX7_find (d, mc, ms, cc + mc2, zz + ms2) 4 L (r.toList ++ S) h2 Q) : V G mX7_find (d, mc, ms, cc, zz) 1 L (a0 :: S) h Q := V_callS hM dX7_find_1 ⟨km_X7_202, kt_X7_isTape⟩ cw_X7_isTape hdd rfl rfl hrm hf kk
theorem cX7_find_37 {G : gx} {d mc ms cc zz d2 mc2 ms2 : Nat} {L : List (Option Value)} {S : List Value} {h : ah} {Q Q2 : Option Value → ah → Prop} {k : Nat} {fs : List Value} (hM : Ct G mX4_isThere d2 mc2 ms2 (.ref (k + 2) :: []) h Q2) (hc : h (k + 2) = (4, .inl fs)) (hdd : d2 < d ∧ d ≤ 9) (hrm : (S.map fun v => v.category).sum ≤ 8) (hf : cc + mc2 ≤ mc ∧ zz + ms2 ≤ ms) (kk : ∀ r h2, Q2 r h2 → V G mX7_find (d, mc, ms, cc + mc2, zz + ms2) 40 L (r.toList ++ S) h2 Q) : V G mX7_find (d, mc, ms, cc, zz) 37 L (.ref (k + 2) :: S) h Q := V_callVN (ci := 4) (T := TX4) (N := 8) hM dX7_find_37 ⟨km_X7_195, ki_X4_isThere, ks_X4_isThere⟩ cw_X4_isThere rfl hc (by decide) hdd rfl rfl hrm hf kk
theorem cX7_find_52 {G : gx} {d mc ms cc zz d2 mc2 ms2 : Nat} {L : List (Option Value)} {S : List Value} {h : ah} {Q Q2 : Option Value → ah → Prop} {k : Nat} {fs : List Value} (hM : Ct G mX5_isLost d2 mc2 ms2 (.ref (k + 2) :: []) h Q2) (hc : h (k + 2) = (5, .inl fs)) (hdd : d2 < d ∧ d ≤ 9) (hrm : (S.map fun v => v.category).sum ≤ 8) (hf : cc + mc2 ≤ mc ∧ zz + ms2 ≤ ms) (kk : ∀ r h2, Q2 r h2 → V G mX7_find (d, mc, ms, cc + mc2, zz + ms2) 55 L (r.toList ++ S) h2 Q) : V G mX7_find (d, mc, ms, cc, zz) 52 L (.ref (k + 2) :: S) h Q := V_callVN (ci := 5) (T := TX5) (N := 5) hM dX7_find_52 ⟨km_X7_214, ki_X5_isLost, ks_X5_isLost⟩ cw_X5_isLost rfl hc (by decide) hdd rfl rfl hrm hf kk
theorem cX7_find_60 {G : gx} {d mc ms cc zz d2 mc2 ms2 : Nat} {L : List (Option Value)} {S : List Value} {h : ah} {Q Q2 : Option Value → ah → Prop} {k : Nat} {fs : List Value} {a0 : Value} (hM : Ct G mX7_finding d2 mc2 ms2 (.ref (k + 2) :: [a0]) h Q2) (hc : h (k + 2) = (7, .inl fs)) (hdd : d2 < d ∧ d ≤ 9) (hrm : (S.map fun v => v.category).sum ≤ 8) (hf : cc + mc2 ≤ mc ∧ zz + ms2 ≤ ms) (kk : ∀ r h2, Q2 r h2 → V G mX7_find (d, mc, ms, cc + mc2, zz + ms2) 63 L (r.toList ++ S) h2 Q) : V G mX7_find (d, mc, ms, cc, zz) 60 L (a0 :: .ref (k + 2) :: S) h Q := V_callV (ci := 7) (T := TX7) (N := 9) hM dX7_find_60 ⟨km_X7_208, ki_X7_finding, ks_X7_finding⟩ cw_X7_finding rfl hc (by decide) hdd rfl rfl hrm hf kk
theorem cX7_find_72 {G : gx} {d mc ms cc zz d2 mc2 ms2 : Nat} {L : List (Option Value)} {S : List Value} {h : ah} {Q Q2 : Option Value → ah → Prop} {k : Nat} {fs : List Value} {a0 a1 : Value} (hM : Ct G mX5_hasItems d2 mc2 ms2 (.ref (k + 2) :: [a0, a1]) h Q2) (hc : h (k + 2) = (5, .inl fs)) (hdd : d2 < d ∧ d ≤ 9) (hrm : (S.map fun v => v.category).sum ≤ 8) (hf : cc + mc2 ≤ mc ∧ zz + ms2 ≤ ms) (kk : ∀ r h2, Q2 r h2 → V G mX7_find (d, mc, ms, cc + mc2, zz + ms2) 75 L (r.toList ++ S) h2 Q) : V G mX7_find (d, mc, ms, cc, zz) 72 L (a1 :: a0 :: .ref (k + 2) :: S) h Q := V_callVN (ci := 5) (T := TX5) (N := 5) hM dX7_find_72 ⟨km_X7_235, ki_X5_hasItems, ks_X5_hasItems⟩ cw_X5_hasItems rfl hc (by decide) hdd rfl rfl hrm hf kk
theorem cX7_find_80 {G : gx} {d mc ms cc zz d2 mc2 ms2 : Nat} {L : List (Option Value)} {S : List Value} {h : ah} {Q Q2 : Option Value → ah → Prop} {k : Nat} {fs : List Value} {a0 : Value} (hM : Ct G mX7_finding d2 mc2 ms2 (.ref (k + 2) :: [a0]) h Q2) (hc : h (k + 2) = (7, .inl fs)) (hdd : d2 < d ∧ d ≤ 9) (hrm : (S.map fun v => v.category).sum ≤ 8) (hf : cc + mc2 ≤ mc ∧ zz + ms2 ≤ ms) (kk : ∀ r h2, Q2 r h2 → V G mX7_find (d, mc, ms, cc + mc2, zz + ms2) 83 L (r.toList ++ S) h2 Q) : V G mX7_find (d, mc, ms, cc, zz) 80 L (a0 :: .ref (k + 2) :: S) h Q := V_callV (ci := 7) (T := TX7) (N := 9) hM dX7_find_80 ⟨km_X7_208, ki_X7_finding, ks_X7_finding⟩ cw_X7_finding rfl hc (by decide) hdd rfl rfl hrm hf kk
theorem cX7_find_101 {G : gx} {d mc ms cc zz d2 mc2 ms2 : Nat} {L : List (Option Value)} {S : List Value} {h : ah} {Q Q2 : Option Value → ah → Prop} {k : Nat} {fs : List Value} {a0 a1 a2 a3 : Value} (hM : Ct G mX4_countMatches d2 mc2 ms2 (.ref (k + 2) :: [a0, a1, a2, a3]) h Q2) (hc : h (k + 2) = (4, .inl fs)) (hdd : d2 < d ∧ d ≤ 9) (hrm : (S.map fun v => v.category).sum ≤ 8) (hf : cc + mc2 ≤ mc ∧ zz + ms2 ≤ ms) (kk : ∀ r h2, Q2 r h2 → V G mX7_find (d, mc, ms, cc + mc2, zz + ms2) 104 L (r.toList ++ S) h2 Q) : V G mX7_find (d, mc, ms, cc, zz) 101 L (a3 :: a2 :: a1 :: a0 :: .ref (k + 2) :: S) h Q := V_callVN (ci := 4) (T := TX4) (N := 8) hM dX7_find_101 ⟨km_X7_248, ki_X4_countMatches, ks_X4_countMatches⟩ cw_X4_countMatches rfl hc (by decide) hdd rfl rfl hrm hf kk
theorem tX7_found_0 {G : gx} {b : bg} {h : ah} {Q : Option Value → ah → Prop} {ufirstFound : Int32} {ulatestFinding : Int32} (g2 : h 2 = (7, .inl [.ref 3, .ref 5, .ref 9, .ref 17, .ref 23, .ref 36, .ref 38, .int ufirstFound, .int ulatestFinding])) (q1 : Q (some (.int ufirstFound)) h) : V G mX7_found b 0 [some (.ref 2)] [] h Q := by
  refine V_aload_n dX7_found_0 rfl rfl ?_
  refine V_get (ci := 7) (j := 7) (C0 := RX7) (T := TX7) (N := 9) dX7_found_1 rfl g2 (by decide) (by decide) kf_X7_60 rfl ?_
  exact V_iret dX7_found_4 rfl (q1)
theorem tX7_twice_0 {G : gx} {b : bg} {h : ah} {Q : Option Value → ah → Prop} {x1 : Int32} (q1 : V G mX7_twice b 1 [some (.ref 2), some (.int x1)] [.int x1] h Q) : V G mX7_twice b 0 [some (.ref 2), some (.int x1)] [] h Q := by
  refine V_iload_n dX7_twice_0 rfl rfl ?_
  exact V_sub (by exact (And.intro rfl (And.intro rfl True.intro))) (q1)
theorem tX7_twice_4 {G : gx} {b : bg} {h : ah} {Q : Option Value → ah → Prop} {x1 : Int32} {s0 : Int32} {ufirstFound : Int32} {ulatestFinding : Int32} {utape : Nat → Option Nat} {ta : Nat} (g2 : h 2 = (7, .inl [.ref 3, .ref 5, .ref 9, .ref 17, .ref 23, .ref 36, .ref 38, .int ufirstFound, .int ulatestFinding])) (g23 : h 23 = (4, .inr (4, .inr (.inr utape)))) (q1 : (¬ s0 = (0 : Int32)) → vp_in x1 4) (q2 : (¬ s0 = (0 : Int32)) → utape x1.toNatClampNeg = some (ta + 2)) (q3 : (¬ s0 = (0 : Int32)) → V G mX7_twice b 18 [some (.ref 2), some (.int x1), some (.ref (ta + 2))] [.ref (ta + 2)] h Q) (q4 : (s0 = (0 : Int32)) → Q (some (.int (-2 : Int32))) h) : V G mX7_twice b 4 [some (.ref 2), some (.int x1)] [.int s0] h Q := by
  refine V_if_ne (t := 10) dX7_twice_4 (by decide) (fun z1 => ?_) (fun z1 => ?_)
  ·
    refine V_aload_n dX7_twice_10 rfl rfl ?_
    refine V_get (ci := 7) (j := 4) (C0 := RX7) (T := TX7) (N := 9) dX7_twice_11 rfl g2 (by decide) (by decide) kf_X7_41 rfl ?_
    refine V_iload_n dX7_twice_14 rfl rfl ?_
    refine V_aald dX7_twice_15 g23 (q1 z1) (q2 z1) ?_
    refine V_astore_n dX7_twice_16 rfl (Nat.le_of_ble_eq_true rfl) ?_
    refine V_aload_n dX7_twice_17 rfl rfl ?_
    exact V_sub (by exact (And.intro rfl (And.intro rfl (And.intro rfl True.intro)))) (q3 z1)
  ·
    refine V_bipush dX7_twice_7 bp_m2 ?_
    exact V_iret dX7_twice_9 rfl (q4 z1)
theorem tX7_twice_21 {G : gx} {b : bg} {h : ah} {Q : Option Value → ah → Prop} {x1 : Int32} {p2 : Nat} {s0 : Int32} {ti : Nat} {tb : Nat} {tform : Int32} {tlength : Int32} (gp22 : h (p2 + 2) = (5, .inl [.ref 3, .ref (ti + 2), .int tform, .int tlength, .ref (tb + 2)])) (q1 : (s0 = (0 : Int32)) → (tlength = (0 : Int32)) → Q (some (.int (-3 : Int32))) h) (q2 : (s0 = (0 : Int32)) → (¬ tlength = (0 : Int32)) → V G mX7_twice b 38 [some (.ref 2), some (.int x1), some (.ref (p2 + 2))] [.ref (p2 + 2)] h Q) (q3 : (¬ s0 = (0 : Int32)) → V G mX7_twice b 26 [some (.ref 2), some (.int x1), some (.ref (p2 + 2))] [.int (1 : Int32), .ref 2] h Q) : V G mX7_twice b 21 [some (.ref 2), some (.int x1), some (.ref (p2 + 2))] [.int s0] h Q := by
  refine V_if_eq (t := 30) dX7_twice_21 (by decide) (fun z1 => ?_) (fun z1 => ?_)
  ·
    refine V_aload_n dX7_twice_30 rfl rfl ?_
    refine V_getN (ci := 5) (j := 3) (C0 := RX5) (T := TX5) (N := 5) dX7_twice_31 rfl gp22 (by decide) (by decide) kf_X7_255 rfl ?_
    refine V_if_eq (t := 44) dX7_twice_34 (by decide) (fun z2 => ?_) (fun z2 => ?_)
    ·
      refine V_bipush dX7_twice_44 bp_m3 ?_
      refine V_goto (t := 53) dX7_twice_46 (by decide) ?_
      exact V_iret dX7_twice_53 rfl (q1 z1 z2)
    ·
      refine V_aload_n dX7_twice_37 rfl rfl ?_
      exact V_sub (by exact (And.intro rfl (And.intro rfl (And.intro rfl True.intro)))) (q2 z1 z2)
  ·
    refine V_aload_n dX7_twice_24 rfl rfl ?_
    refine V_iconst dX7_twice_25 ic_1 ?_
    exact V_sub (by exact (And.intro rfl (And.intro rfl (And.intro rfl True.intro)))) (q3 z1)
theorem tX7_twice_29 {G : gx} {b : bg} {h : ah} {Q : Option Value → ah → Prop} {x1 : Int32} {p2 : Nat} {s0 : Int32} (q1 : Q (some (.int s0)) h) : V G mX7_twice b 29 [some (.ref 2), some (.int x1), some (.ref (p2 + 2))] [.int s0] h Q := by
  exact V_iret dX7_twice_29 rfl (q1)
theorem tX7_twice_41 {G : gx} {b : bg} {h : ah} {Q : Option Value → ah → Prop} {x1 : Int32} {p2 : Nat} {s0 : Int32} (q1 : (s0 = (0 : Int32)) → V G mX7_twice b 50 [some (.ref 2), some (.int x1), some (.ref (p2 + 2))] [.ref (p2 + 2)] h Q) (q2 : (¬ s0 = (0 : Int32)) → Q (some (.int (-3 : Int32))) h) : V G mX7_twice b 41 [some (.ref 2), some (.int x1), some (.ref (p2 + 2))] [.int s0] h Q := by
  refine V_if_eq (t := 49) dX7_twice_41 (by decide) (fun z1 => ?_) (fun z1 => ?_)
  ·
    refine V_aload_n dX7_twice_49 rfl rfl ?_
    exact V_sub (by exact (And.intro rfl (And.intro rfl (And.intro rfl True.intro)))) (q1 z1)
  ·
    refine V_bipush dX7_twice_44 bp_m3 ?_
    refine V_goto (t := 53) dX7_twice_46 (by decide) ?_
    exact V_iret dX7_twice_53 rfl (q2 z1)
theorem tX7_twice_53 {G : gx} {b : bg} {h : ah} {Q : Option Value → ah → Prop} {x1 : Int32} {p2 : Nat} {s0 : Int32} (q1 : Q (some (.int s0)) h) : V G mX7_twice b 53 [some (.ref 2), some (.int x1), some (.ref (p2 + 2))] [.int s0] h Q := by
  exact V_iret dX7_twice_53 rfl (q1)
theorem cX7_twice_1 {G : gx} {d mc ms cc zz d2 mc2 ms2 : Nat} {L : List (Option Value)} {S : List Value} {h : ah} {Q Q2 : Option Value → ah → Prop} {a0 : Value} (hM : Ct G mX7_isTape d2 mc2 ms2 [a0] h Q2) (hdd : d2 < d ∧ d ≤ 9) (hrm : (S.map fun v => v.category).sum ≤ 8) (hf : cc + mc2 ≤ mc ∧ zz + ms2 ≤ ms) (kk : ∀ r h2, Q2 r h2 → V G mX7_twice (d, mc, ms, cc + mc2, zz + ms2) 4 L (r.toList ++ S) h2 Q) : V G mX7_twice (d, mc, ms, cc, zz) 1 L (a0 :: S) h Q := V_callS hM dX7_twice_1 ⟨km_X7_202, kt_X7_isTape⟩ cw_X7_isTape hdd rfl rfl hrm hf kk
theorem cX7_twice_18 {G : gx} {d mc ms cc zz d2 mc2 ms2 : Nat} {L : List (Option Value)} {S : List Value} {h : ah} {Q Q2 : Option Value → ah → Prop} {k : Nat} {fs : List Value} (hM : Ct G mX5_isLost d2 mc2 ms2 (.ref (k + 2) :: []) h Q2) (hc : h (k + 2) = (5, .inl fs)) (hdd : d2 < d ∧ d ≤ 9) (hrm : (S.map fun v => v.category).sum ≤ 8) (hf : cc + mc2 ≤ mc ∧ zz + ms2 ≤ ms) (kk : ∀ r h2, Q2 r h2 → V G mX7_twice (d, mc, ms, cc + mc2, zz + ms2) 21 L (r.toList ++ S) h2 Q) : V G mX7_twice (d, mc, ms, cc, zz) 18 L (.ref (k + 2) :: S) h Q := V_callVN (ci := 5) (T := TX5) (N := 5) hM dX7_twice_18 ⟨km_X7_214, ki_X5_isLost, ks_X5_isLost⟩ cw_X5_isLost rfl hc (by decide) hdd rfl rfl hrm hf kk
theorem cX7_twice_26 {G : gx} {d mc ms cc zz d2 mc2 ms2 : Nat} {L : List (Option Value)} {S : List Value} {h : ah} {Q Q2 : Option Value → ah → Prop} {k : Nat} {fs : List Value} {a0 : Value} (hM : Ct G mX7_finding d2 mc2 ms2 (.ref (k + 2) :: [a0]) h Q2) (hc : h (k + 2) = (7, .inl fs)) (hdd : d2 < d ∧ d ≤ 9) (hrm : (S.map fun v => v.category).sum ≤ 8) (hf : cc + mc2 ≤ mc ∧ zz + ms2 ≤ ms) (kk : ∀ r h2, Q2 r h2 → V G mX7_twice (d, mc, ms, cc + mc2, zz + ms2) 29 L (r.toList ++ S) h2 Q) : V G mX7_twice (d, mc, ms, cc, zz) 26 L (a0 :: .ref (k + 2) :: S) h Q := V_callV (ci := 7) (T := TX7) (N := 9) hM dX7_twice_26 ⟨km_X7_208, ki_X7_finding, ks_X7_finding⟩ cw_X7_finding rfl hc (by decide) hdd rfl rfl hrm hf kk
theorem cX7_twice_38 {G : gx} {d mc ms cc zz d2 mc2 ms2 : Nat} {L : List (Option Value)} {S : List Value} {h : ah} {Q Q2 : Option Value → ah → Prop} {k : Nat} {fs : List Value} (hM : Ct G mX5_hasBlanks d2 mc2 ms2 (.ref (k + 2) :: []) h Q2) (hc : h (k + 2) = (5, .inl fs)) (hdd : d2 < d ∧ d ≤ 9) (hrm : (S.map fun v => v.category).sum ≤ 8) (hf : cc + mc2 ≤ mc ∧ zz + ms2 ≤ ms) (kk : ∀ r h2, Q2 r h2 → V G mX7_twice (d, mc, ms, cc + mc2, zz + ms2) 41 L (r.toList ++ S) h2 Q) : V G mX7_twice (d, mc, ms, cc, zz) 38 L (.ref (k + 2) :: S) h Q := V_callVN (ci := 5) (T := TX5) (N := 5) hM dX7_twice_38 ⟨km_X7_256, ki_X5_hasBlanks, ks_X5_hasBlanks⟩ cw_X5_hasBlanks rfl hc (by decide) hdd rfl rfl hrm hf kk
theorem cX7_twice_50 {G : gx} {d mc ms cc zz d2 mc2 ms2 : Nat} {L : List (Option Value)} {S : List Value} {h : ah} {Q Q2 : Option Value → ah → Prop} {k : Nat} {fs : List Value} (hM : Ct G mX5_firstRepeated d2 mc2 ms2 (.ref (k + 2) :: []) h Q2) (hc : h (k + 2) = (5, .inl fs)) (hdd : d2 < d ∧ d ≤ 9) (hrm : (S.map fun v => v.category).sum ≤ 8) (hf : cc + mc2 ≤ mc ∧ zz + ms2 ≤ ms) (kk : ∀ r h2, Q2 r h2 → V G mX7_twice (d, mc, ms, cc + mc2, zz + ms2) 53 L (r.toList ++ S) h2 Q) : V G mX7_twice (d, mc, ms, cc, zz) 50 L (.ref (k + 2) :: S) h Q := V_callVN (ci := 5) (T := TX5) (N := 5) hM dX7_twice_50 ⟨km_X7_259, ki_X5_firstRepeated, ks_X5_firstRepeated⟩ cw_X5_firstRepeated rfl hc (by decide) hdd rfl rfl hrm hf kk
theorem tX7_parts_0 {G : gx} {b : bg} {h : ah} {Q : Option Value → ah → Prop} {x1 : Int32} (q1 : V G mX7_parts b 1 [some (.ref 2), some (.int x1)] [.int x1] h Q) : V G mX7_parts b 0 [some (.ref 2), some (.int x1)] [] h Q := by
  refine V_iload_n dX7_parts_0 rfl rfl ?_
  exact V_sub (by exact (And.intro rfl (And.intro rfl True.intro))) (q1)
theorem tX7_parts_4 {G : gx} {b : bg} {h : ah} {Q : Option Value → ah → Prop} {x1 : Int32} {s0 : Int32} {ufirstFound : Int32} {ulatestFinding : Int32} {utape : Nat → Option Nat} {ta : Nat} (g2 : h 2 = (7, .inl [.ref 3, .ref 5, .ref 9, .ref 17, .ref 23, .ref 36, .ref 38, .int ufirstFound, .int ulatestFinding])) (g23 : h 23 = (4, .inr (4, .inr (.inr utape)))) (q1 : (¬ s0 = (0 : Int32)) → vp_in x1 4) (q2 : (¬ s0 = (0 : Int32)) → utape x1.toNatClampNeg = some (ta + 2)) (q3 : (¬ s0 = (0 : Int32)) → V G mX7_parts b 18 [some (.ref 2), some (.int x1), some (.ref (ta + 2))] [.ref (ta + 2)] h Q) (q4 : (s0 = (0 : Int32)) → Q (some (.int (-2 : Int32))) h) : V G mX7_parts b 4 [some (.ref 2), some (.int x1)] [.int s0] h Q := by
  refine V_if_ne (t := 10) dX7_parts_4 (by decide) (fun z1 => ?_) (fun z1 => ?_)
  ·
    refine V_aload_n dX7_parts_10 rfl rfl ?_
    refine V_get (ci := 7) (j := 4) (C0 := RX7) (T := TX7) (N := 9) dX7_parts_11 rfl g2 (by decide) (by decide) kf_X7_41 rfl ?_
    refine V_iload_n dX7_parts_14 rfl rfl ?_
    refine V_aald dX7_parts_15 g23 (q1 z1) (q2 z1) ?_
    refine V_astore_n dX7_parts_16 rfl (Nat.le_of_ble_eq_true rfl) ?_
    refine V_aload_n dX7_parts_17 rfl rfl ?_
    exact V_sub (by exact (And.intro rfl (And.intro rfl (And.intro rfl True.intro)))) (q3 z1)
  ·
    refine V_bipush dX7_parts_7 bp_m2 ?_
    exact V_iret dX7_parts_9 rfl (q4 z1)
theorem tX7_parts_21 {G : gx} {b : bg} {h : ah} {Q : Option Value → ah → Prop} {x1 : Int32} {p2 : Nat} {s0 : Int32} (q1 : (s0 = (0 : Int32)) → V G mX7_parts b 31 [some (.ref 2), some (.int x1), some (.ref (p2 + 2))] [.ref (p2 + 2)] h Q) (q2 : (¬ s0 = (0 : Int32)) → V G mX7_parts b 26 [some (.ref 2), some (.int x1), some (.ref (p2 + 2))] [.int (1 : Int32), .ref 2] h Q) : V G mX7_parts b 21 [some (.ref 2), some (.int x1), some (.ref (p2 + 2))] [.int s0] h Q := by
  refine V_if_eq (t := 30) dX7_parts_21 (by decide) (fun z1 => ?_) (fun z1 => ?_)
  ·
    refine V_aload_n dX7_parts_30 rfl rfl ?_
    exact V_sub (by exact (And.intro rfl (And.intro rfl (And.intro rfl True.intro)))) (q1 z1)
  ·
    refine V_aload_n dX7_parts_24 rfl rfl ?_
    refine V_iconst dX7_parts_25 ic_1 ?_
    exact V_sub (by exact (And.intro rfl (And.intro rfl (And.intro rfl True.intro)))) (q2 z1)
theorem tX7_parts_29 {G : gx} {b : bg} {h : ah} {Q : Option Value → ah → Prop} {x1 : Int32} {p2 : Nat} {s0 : Int32} (q1 : Q (some (.int s0)) h) : V G mX7_parts b 29 [some (.ref 2), some (.int x1), some (.ref (p2 + 2))] [.int s0] h Q := by
  exact V_iret dX7_parts_29 rfl (q1)
theorem tX7_parts_34 {G : gx} {b : bg} {h : ah} {Q : Option Value → ah → Prop} {x1 : Int32} {p2 : Nat} {s0 : Int32} {ufirstFound : Int32} {ulatestFinding : Int32} {ti : Nat} {tb : Nat} {tform : Int32} {tlength : Int32} (g2 : h 2 = (7, .inl [.ref 3, .ref 5, .ref 9, .ref 17, .ref 23, .ref 36, .ref 38, .int ufirstFound, .int ulatestFinding])) (gp22 : h (p2 + 2) = (5, .inl [.ref 3, .ref (ti + 2), .int tform, .int tlength, .ref (tb + 2)])) (q1 : (s0 = (0 : Int32)) → V G mX7_parts b 54 [some (.ref 2), some (.int x1), some (.ref (p2 + 2))] [.int tlength, .ref (ti + 2), .ref 36] h Q) (q2 : (¬ s0 = (0 : Int32)) → Q (some (.int (-3 : Int32))) h) : V G mX7_parts b 34 [some (.ref 2), some (.int x1), some (.ref (p2 + 2))] [.int s0] h Q := by
  refine V_if_eq (t := 42) dX7_parts_34 (by decide) (fun z1 => ?_) (fun z1 => ?_)
  ·
    refine V_aload_n dX7_parts_42 rfl rfl ?_
    refine V_get (ci := 7) (j := 5) (C0 := RX7) (T := TX7) (N := 9) dX7_parts_43 rfl g2 (by decide) (by decide) kf_X7_49 rfl ?_
    refine V_aload_n dX7_parts_46 rfl rfl ?_
    refine V_getN (ci := 5) (j := 1) (C0 := RX5) (T := TX5) (N := 5) dX7_parts_47 rfl gp22 (by decide) (by decide) kf_X7_223 rfl ?_
    refine V_aload_n dX7_parts_50 rfl rfl ?_
    refine V_getN (ci := 5) (j := 3) (C0 := RX5) (T := TX5) (N := 5) dX7_parts_51 rfl gp22 (by decide) (by decide) kf_X7_255 rfl ?_
    exact V_sub (by exact (And.intro rfl (And.intro rfl (And.intro rfl True.intro)))) (q1 z1)
  ·
    refine V_bipush dX7_parts_37 bp_m3 ?_
    refine V_goto (t := 57) dX7_parts_39 (by decide) ?_
    exact V_iret dX7_parts_57 rfl (q2 z1)
theorem tX7_parts_57 {G : gx} {b : bg} {h : ah} {Q : Option Value → ah → Prop} {x1 : Int32} {p2 : Nat} {s0 : Int32} (q1 : Q (some (.int s0)) h) : V G mX7_parts b 57 [some (.ref 2), some (.int x1), some (.ref (p2 + 2))] [.int s0] h Q := by
  exact V_iret dX7_parts_57 rfl (q1)
theorem cX7_parts_1 {G : gx} {d mc ms cc zz d2 mc2 ms2 : Nat} {L : List (Option Value)} {S : List Value} {h : ah} {Q Q2 : Option Value → ah → Prop} {a0 : Value} (hM : Ct G mX7_isTape d2 mc2 ms2 [a0] h Q2) (hdd : d2 < d ∧ d ≤ 9) (hrm : (S.map fun v => v.category).sum ≤ 8) (hf : cc + mc2 ≤ mc ∧ zz + ms2 ≤ ms) (kk : ∀ r h2, Q2 r h2 → V G mX7_parts (d, mc, ms, cc + mc2, zz + ms2) 4 L (r.toList ++ S) h2 Q) : V G mX7_parts (d, mc, ms, cc, zz) 1 L (a0 :: S) h Q := V_callS hM dX7_parts_1 ⟨km_X7_202, kt_X7_isTape⟩ cw_X7_isTape hdd rfl rfl hrm hf kk
theorem cX7_parts_18 {G : gx} {d mc ms cc zz d2 mc2 ms2 : Nat} {L : List (Option Value)} {S : List Value} {h : ah} {Q Q2 : Option Value → ah → Prop} {k : Nat} {fs : List Value} (hM : Ct G mX5_isLost d2 mc2 ms2 (.ref (k + 2) :: []) h Q2) (hc : h (k + 2) = (5, .inl fs)) (hdd : d2 < d ∧ d ≤ 9) (hrm : (S.map fun v => v.category).sum ≤ 8) (hf : cc + mc2 ≤ mc ∧ zz + ms2 ≤ ms) (kk : ∀ r h2, Q2 r h2 → V G mX7_parts (d, mc, ms, cc + mc2, zz + ms2) 21 L (r.toList ++ S) h2 Q) : V G mX7_parts (d, mc, ms, cc, zz) 18 L (.ref (k + 2) :: S) h Q := V_callVN (ci := 5) (T := TX5) (N := 5) hM dX7_parts_18 ⟨km_X7_214, ki_X5_isLost, ks_X5_isLost⟩ cw_X5_isLost rfl hc (by decide) hdd rfl rfl hrm hf kk
theorem cX7_parts_26 {G : gx} {d mc ms cc zz d2 mc2 ms2 : Nat} {L : List (Option Value)} {S : List Value} {h : ah} {Q Q2 : Option Value → ah → Prop} {k : Nat} {fs : List Value} {a0 : Value} (hM : Ct G mX7_finding d2 mc2 ms2 (.ref (k + 2) :: [a0]) h Q2) (hc : h (k + 2) = (7, .inl fs)) (hdd : d2 < d ∧ d ≤ 9) (hrm : (S.map fun v => v.category).sum ≤ 8) (hf : cc + mc2 ≤ mc ∧ zz + ms2 ≤ ms) (kk : ∀ r h2, Q2 r h2 → V G mX7_parts (d, mc, ms, cc + mc2, zz + ms2) 29 L (r.toList ++ S) h2 Q) : V G mX7_parts (d, mc, ms, cc, zz) 26 L (a0 :: .ref (k + 2) :: S) h Q := V_callV (ci := 7) (T := TX7) (N := 9) hM dX7_parts_26 ⟨km_X7_208, ki_X7_finding, ks_X7_finding⟩ cw_X7_finding rfl hc (by decide) hdd rfl rfl hrm hf kk
theorem cX7_parts_31 {G : gx} {d mc ms cc zz d2 mc2 ms2 : Nat} {L : List (Option Value)} {S : List Value} {h : ah} {Q Q2 : Option Value → ah → Prop} {k : Nat} {fs : List Value} (hM : Ct G mX5_hasBlanks d2 mc2 ms2 (.ref (k + 2) :: []) h Q2) (hc : h (k + 2) = (5, .inl fs)) (hdd : d2 < d ∧ d ≤ 9) (hrm : (S.map fun v => v.category).sum ≤ 8) (hf : cc + mc2 ≤ mc ∧ zz + ms2 ≤ ms) (kk : ∀ r h2, Q2 r h2 → V G mX7_parts (d, mc, ms, cc + mc2, zz + ms2) 34 L (r.toList ++ S) h2 Q) : V G mX7_parts (d, mc, ms, cc, zz) 31 L (.ref (k + 2) :: S) h Q := V_callVN (ci := 5) (T := TX5) (N := 5) hM dX7_parts_31 ⟨km_X7_256, ki_X5_hasBlanks, ks_X5_hasBlanks⟩ cw_X5_hasBlanks rfl hc (by decide) hdd rfl rfl hrm hf kk
theorem cX7_parts_54 {G : gx} {d mc ms cc zz d2 mc2 ms2 : Nat} {L : List (Option Value)} {S : List Value} {h : ah} {Q Q2 : Option Value → ah → Prop} {k : Nat} {fs : List Value} {a0 a1 : Value} (hM : Ct G mX0_divide d2 mc2 ms2 (.ref (k + 2) :: [a0, a1]) h Q2) (hc : h (k + 2) = (0, .inl fs)) (hdd : d2 < d ∧ d ≤ 9) (hrm : (S.map fun v => v.category).sum ≤ 8) (hf : cc + mc2 ≤ mc ∧ zz + ms2 ≤ ms) (kk : ∀ r h2, Q2 r h2 → V G mX7_parts (d, mc, ms, cc + mc2, zz + ms2) 57 L (r.toList ++ S) h2 Q) : V G mX7_parts (d, mc, ms, cc, zz) 54 L (a1 :: a0 :: .ref (k + 2) :: S) h Q := V_callVN (ci := 0) (T := TX0) (N := 2) hM dX7_parts_54 ⟨km_X7_262, ki_X0_divide, ks_X0_divide⟩ cw_X0_divide rfl hc (by decide) hdd rfl rfl hrm hf kk
theorem tX7_part_0 {G : gx} {b : bg} {h : ah} {Q : Option Value → ah → Prop} {x1 : Int32} {ufirstFound : Int32} {ulatestFinding : Int32} {ptold : Int32} {pbeg : Nat → Int32} (g2 : h 2 = (7, .inl [.ref 3, .ref 5, .ref 9, .ref 17, .ref 23, .ref 36, .ref 38, .int ufirstFound, .int ulatestFinding])) (g36 : h 36 = (0, .inl [.ref 37, .int ptold])) (g37 : h 37 = (0, .inr (200, .inl pbeg))) (q1 : (x1 < (0 : Int32)) → Q (some (.int (-2 : Int32))) h) (q2 : (¬ x1 < (0 : Int32)) → (x1 < ptold) → vp_in x1 200) (q3 : (¬ x1 < (0 : Int32)) → (x1 < ptold) → Q (some (.int (pbeg x1.toNatClampNeg))) h) (q4 : (¬ x1 < (0 : Int32)) → (¬ x1 < ptold) → Q (some (.int (-2 : Int32))) h) : V G mX7_part b 0 [some (.ref 2), some (.int x1)] [] h Q := by
  refine V_iload_n dX7_part_0 rfl rfl ?_
  refine V_if_lt (t := 15) dX7_part_1 (by decide) (fun z1 => ?_) (fun z1 => ?_)
  ·
    refine V_bipush dX7_part_15 bp_m2 ?_
    refine V_goto (t := 29) dX7_part_17 (by decide) ?_
    exact V_iret dX7_part_29 rfl (q1 z1)
  ·
    refine V_iload_n dX7_part_4 rfl rfl ?_
    refine V_aload_n dX7_part_5 rfl rfl ?_
    refine V_get (ci := 7) (j := 5) (C0 := RX7) (T := TX7) (N := 9) dX7_part_6 rfl g2 (by decide) (by decide) kf_X7_49 rfl ?_
    refine V_getN (ci := 0) (j := 1) (C0 := RX0) (T := TX0) (N := 2) dX7_part_9 rfl g36 (by decide) (by decide) kf_X7_266 rfl ?_
    refine V_icmp_lt (t := 20) dX7_part_12 (by decide) (fun z2 => ?_) (fun z2 => ?_)
    ·
      refine V_aload_n dX7_part_20 rfl rfl ?_
      refine V_get (ci := 7) (j := 5) (C0 := RX7) (T := TX7) (N := 9) dX7_part_21 rfl g2 (by decide) (by decide) kf_X7_49 rfl ?_
      refine V_getN (ci := 0) (j := 0) (C0 := RX0) (T := TX0) (N := 2) dX7_part_24 rfl g36 (by decide) (by decide) kf_X7_269 rfl ?_
      refine V_iload_n dX7_part_27 rfl rfl ?_
      refine V_iald dX7_part_28 g37 (q2 z1 z2) ?_
      exact V_iret dX7_part_29 rfl (q3 z1 z2)
    ·
      refine V_bipush dX7_part_15 bp_m2 ?_
      refine V_goto (t := 29) dX7_part_17 (by decide) ?_
      exact V_iret dX7_part_29 rfl (q4 z1 z2)
theorem tX7_recurrence_0 {G : gx} {b : bg} {h : ah} {Q : Option Value → ah → Prop} {x1 : Int32} (q1 : V G mX7_recurrence b 1 [some (.ref 2), some (.int x1)] [.int x1] h Q) : V G mX7_recurrence b 0 [some (.ref 2), some (.int x1)] [] h Q := by
  refine V_iload_n dX7_recurrence_0 rfl rfl ?_
  exact V_sub (by exact (And.intro rfl (And.intro rfl True.intro))) (q1)
theorem tX7_recurrence_4 {G : gx} {b : bg} {h : ah} {Q : Option Value → ah → Prop} {x1 : Int32} {s0 : Int32} {ufirstFound : Int32} {ulatestFinding : Int32} {utape : Nat → Option Nat} {ta : Nat} (g2 : h 2 = (7, .inl [.ref 3, .ref 5, .ref 9, .ref 17, .ref 23, .ref 36, .ref 38, .int ufirstFound, .int ulatestFinding])) (g23 : h 23 = (4, .inr (4, .inr (.inr utape)))) (q1 : (¬ s0 = (0 : Int32)) → vp_in x1 4) (q2 : (¬ s0 = (0 : Int32)) → utape x1.toNatClampNeg = some (ta + 2)) (q3 : (¬ s0 = (0 : Int32)) → V G mX7_recurrence b 18 [some (.ref 2), some (.int x1), some (.ref (ta + 2))] [.ref (ta + 2)] h Q) (q4 : (s0 = (0 : Int32)) → Q (some (.int (-2 : Int32))) h) : V G mX7_recurrence b 4 [some (.ref 2), some (.int x1)] [.int s0] h Q := by
  refine V_if_ne (t := 10) dX7_recurrence_4 (by decide) (fun z1 => ?_) (fun z1 => ?_)
  ·
    refine V_aload_n dX7_recurrence_10 rfl rfl ?_
    refine V_get (ci := 7) (j := 4) (C0 := RX7) (T := TX7) (N := 9) dX7_recurrence_11 rfl g2 (by decide) (by decide) kf_X7_41 rfl ?_
    refine V_iload_n dX7_recurrence_14 rfl rfl ?_
    refine V_aald dX7_recurrence_15 g23 (q1 z1) (q2 z1) ?_
    refine V_astore_n dX7_recurrence_16 rfl (Nat.le_of_ble_eq_true rfl) ?_
    refine V_aload_n dX7_recurrence_17 rfl rfl ?_
    exact V_sub (by exact (And.intro rfl (And.intro rfl (And.intro rfl True.intro)))) (q3 z1)
  ·
    refine V_bipush dX7_recurrence_7 bp_m2 ?_
    exact V_iret dX7_recurrence_9 rfl (q4 z1)
theorem tX7_recurrence_21 {G : gx} {b : bg} {h : ah} {Q : Option Value → ah → Prop} {x1 : Int32} {p2 : Nat} {s0 : Int32} {ufirstFound : Int32} {ulatestFinding : Int32} {wletters : Int32} {wlength : Int32} {wall : Int32} {whigh : Int32} (g2 : h 2 = (7, .inl [.ref 3, .ref 5, .ref 9, .ref 17, .ref 23, .ref 36, .ref 38, .int ufirstFound, .int ulatestFinding])) (g3 : h 3 = (6, .inl [.ref 4, .int wletters, .int wlength, .int wall, .int whigh])) (q1 : (s0 = (0 : Int32)) → (wletters = (4 : Int32)) → Q (some (.int (-3 : Int32))) h) (q2 : (s0 = (0 : Int32)) → (¬ wletters = (4 : Int32)) → V G mX7_recurrence b 42 [some (.ref 2), some (.int x1), some (.ref (p2 + 2))] [.ref (p2 + 2)] h Q) (q3 : (¬ s0 = (0 : Int32)) → V G mX7_recurrence b 26 [some (.ref 2), some (.int x1), some (.ref (p2 + 2))] [.int (1 : Int32), .ref 2] h Q) : V G mX7_recurrence b 21 [some (.ref 2), some (.int x1), some (.ref (p2 + 2))] [.int s0] h Q := by
  refine V_if_eq (t := 30) dX7_recurrence_21 (by decide) (fun z1 => ?_) (fun z1 => ?_)
  ·
    refine V_aload_n dX7_recurrence_30 rfl rfl ?_
    refine V_get (ci := 7) (j := 0) (C0 := RX7) (T := TX7) (N := 9) dX7_recurrence_31 rfl g2 (by decide) (by decide) kf_X7_10 rfl ?_
    refine V_getN (ci := 6) (j := 1) (C0 := RX6) (T := TX6) (N := 5) dX7_recurrence_34 rfl g3 (by decide) (by decide) kf_X7_272 rfl ?_
    refine V_iconst dX7_recurrence_37 ic_4 ?_
    refine V_icmp_eq (t := 48) dX7_recurrence_38 (by decide) (fun z2 => ?_) (fun z2 => ?_)
    ·
      refine V_bipush dX7_recurrence_48 bp_m3 ?_
      exact V_iret dX7_recurrence_50 rfl (q1 z1 z2)
    ·
      refine V_aload_n dX7_recurrence_41 rfl rfl ?_
      exact V_sub (by exact (And.intro rfl (And.intro rfl (And.intro rfl True.intro)))) (q2 z1 z2)
  ·
    refine V_aload_n dX7_recurrence_24 rfl rfl ?_
    refine V_iconst dX7_recurrence_25 ic_1 ?_
    exact V_sub (by exact (And.intro rfl (And.intro rfl (And.intro rfl True.intro)))) (q3 z1)
theorem tX7_recurrence_29 {G : gx} {b : bg} {h : ah} {Q : Option Value → ah → Prop} {x1 : Int32} {p2 : Nat} {s0 : Int32} (q1 : Q (some (.int s0)) h) : V G mX7_recurrence b 29 [some (.ref 2), some (.int x1), some (.ref (p2 + 2))] [.int s0] h Q := by
  exact V_iret dX7_recurrence_29 rfl (q1)
theorem tX7_recurrence_45 {G : gx} {b : bg} {h : ah} {Q : Option Value → ah → Prop} {x1 : Int32} {p2 : Nat} {s0 : Int32} {ufirstFound : Int32} {ulatestFinding : Int32} {ti : Nat} {tb : Nat} {tform : Int32} {tlength : Int32} {wletters : Int32} {wlength : Int32} {wall : Int32} {whigh : Int32} (g2 : h 2 = (7, .inl [.ref 3, .ref 5, .ref 9, .ref 17, .ref 23, .ref 36, .ref 38, .int ufirstFound, .int ulatestFinding])) (gp22 : h (p2 + 2) = (5, .inl [.ref 3, .ref (ti + 2), .int tform, .int tlength, .ref (tb + 2)])) (g3 : h 3 = (6, .inl [.ref 4, .int wletters, .int wlength, .int wall, .int whigh])) (q1 : (s0 = (0 : Int32)) → V G mX7_recurrence b 70 [some (.ref 2), some (.int x1), some (.ref (p2 + 2))] [.int wletters, .int tlength, .ref (ti + 2), .ref 38] h Q) (q2 : (¬ s0 = (0 : Int32)) → Q (some (.int (-3 : Int32))) h) : V G mX7_recurrence b 45 [some (.ref 2), some (.int x1), some (.ref (p2 + 2))] [.int s0] h Q := by
  refine V_if_eq (t := 51) dX7_recurrence_45 (by decide) (fun z1 => ?_) (fun z1 => ?_)
  ·
    refine V_aload_n dX7_recurrence_51 rfl rfl ?_
    refine V_get (ci := 7) (j := 6) (C0 := RX7) (T := TX7) (N := 9) dX7_recurrence_52 rfl g2 (by decide) (by decide) kf_X7_56 rfl ?_
    refine V_aload_n dX7_recurrence_55 rfl rfl ?_
    refine V_getN (ci := 5) (j := 1) (C0 := RX5) (T := TX5) (N := 5) dX7_recurrence_56 rfl gp22 (by decide) (by decide) kf_X7_223 rfl ?_
    refine V_aload_n dX7_recurrence_59 rfl rfl ?_
    refine V_getN (ci := 5) (j := 3) (C0 := RX5) (T := TX5) (N := 5) dX7_recurrence_60 rfl gp22 (by decide) (by decide) kf_X7_255 rfl ?_
    refine V_aload_n dX7_recurrence_63 rfl rfl ?_
    refine V_get (ci := 7) (j := 0) (C0 := RX7) (T := TX7) (N := 9) dX7_recurrence_64 rfl g2 (by decide) (by decide) kf_X7_10 rfl ?_
    refine V_getN (ci := 6) (j := 1) (C0 := RX6) (T := TX6) (N := 5) dX7_recurrence_67 rfl g3 (by decide) (by decide) kf_X7_272 rfl ?_
    exact V_sub (by exact (And.intro rfl (And.intro rfl (And.intro rfl True.intro)))) (q1 z1)
  ·
    refine V_bipush dX7_recurrence_48 bp_m3 ?_
    exact V_iret dX7_recurrence_50 rfl (q2 z1)
theorem tX7_recurrence_73 {G : gx} {b : bg} {h : ah} {Q : Option Value → ah → Prop} {x1 : Int32} {p2 : Nat} {s0 : Int32} (q1 : Q (some (.int s0)) h) : V G mX7_recurrence b 73 [some (.ref 2), some (.int x1), some (.ref (p2 + 2))] [.int s0] h Q := by
  exact V_iret dX7_recurrence_73 rfl (q1)
theorem cX7_recurrence_1 {G : gx} {d mc ms cc zz d2 mc2 ms2 : Nat} {L : List (Option Value)} {S : List Value} {h : ah} {Q Q2 : Option Value → ah → Prop} {a0 : Value} (hM : Ct G mX7_isTape d2 mc2 ms2 [a0] h Q2) (hdd : d2 < d ∧ d ≤ 9) (hrm : (S.map fun v => v.category).sum ≤ 8) (hf : cc + mc2 ≤ mc ∧ zz + ms2 ≤ ms) (kk : ∀ r h2, Q2 r h2 → V G mX7_recurrence (d, mc, ms, cc + mc2, zz + ms2) 4 L (r.toList ++ S) h2 Q) : V G mX7_recurrence (d, mc, ms, cc, zz) 1 L (a0 :: S) h Q := V_callS hM dX7_recurrence_1 ⟨km_X7_202, kt_X7_isTape⟩ cw_X7_isTape hdd rfl rfl hrm hf kk
theorem cX7_recurrence_18 {G : gx} {d mc ms cc zz d2 mc2 ms2 : Nat} {L : List (Option Value)} {S : List Value} {h : ah} {Q Q2 : Option Value → ah → Prop} {k : Nat} {fs : List Value} (hM : Ct G mX5_isLost d2 mc2 ms2 (.ref (k + 2) :: []) h Q2) (hc : h (k + 2) = (5, .inl fs)) (hdd : d2 < d ∧ d ≤ 9) (hrm : (S.map fun v => v.category).sum ≤ 8) (hf : cc + mc2 ≤ mc ∧ zz + ms2 ≤ ms) (kk : ∀ r h2, Q2 r h2 → V G mX7_recurrence (d, mc, ms, cc + mc2, zz + ms2) 21 L (r.toList ++ S) h2 Q) : V G mX7_recurrence (d, mc, ms, cc, zz) 18 L (.ref (k + 2) :: S) h Q := V_callVN (ci := 5) (T := TX5) (N := 5) hM dX7_recurrence_18 ⟨km_X7_214, ki_X5_isLost, ks_X5_isLost⟩ cw_X5_isLost rfl hc (by decide) hdd rfl rfl hrm hf kk
theorem cX7_recurrence_26 {G : gx} {d mc ms cc zz d2 mc2 ms2 : Nat} {L : List (Option Value)} {S : List Value} {h : ah} {Q Q2 : Option Value → ah → Prop} {k : Nat} {fs : List Value} {a0 : Value} (hM : Ct G mX7_finding d2 mc2 ms2 (.ref (k + 2) :: [a0]) h Q2) (hc : h (k + 2) = (7, .inl fs)) (hdd : d2 < d ∧ d ≤ 9) (hrm : (S.map fun v => v.category).sum ≤ 8) (hf : cc + mc2 ≤ mc ∧ zz + ms2 ≤ ms) (kk : ∀ r h2, Q2 r h2 → V G mX7_recurrence (d, mc, ms, cc + mc2, zz + ms2) 29 L (r.toList ++ S) h2 Q) : V G mX7_recurrence (d, mc, ms, cc, zz) 26 L (a0 :: .ref (k + 2) :: S) h Q := V_callV (ci := 7) (T := TX7) (N := 9) hM dX7_recurrence_26 ⟨km_X7_208, ki_X7_finding, ks_X7_finding⟩ cw_X7_finding rfl hc (by decide) hdd rfl rfl hrm hf kk
theorem cX7_recurrence_42 {G : gx} {d mc ms cc zz d2 mc2 ms2 : Nat} {L : List (Option Value)} {S : List Value} {h : ah} {Q Q2 : Option Value → ah → Prop} {k : Nat} {fs : List Value} (hM : Ct G mX5_hasBlanks d2 mc2 ms2 (.ref (k + 2) :: []) h Q2) (hc : h (k + 2) = (5, .inl fs)) (hdd : d2 < d ∧ d ≤ 9) (hrm : (S.map fun v => v.category).sum ≤ 8) (hf : cc + mc2 ≤ mc ∧ zz + ms2 ≤ ms) (kk : ∀ r h2, Q2 r h2 → V G mX7_recurrence (d, mc, ms, cc + mc2, zz + ms2) 45 L (r.toList ++ S) h2 Q) : V G mX7_recurrence (d, mc, ms, cc, zz) 42 L (.ref (k + 2) :: S) h Q := V_callVN (ci := 5) (T := TX5) (N := 5) hM dX7_recurrence_42 ⟨km_X7_256, ki_X5_hasBlanks, ks_X5_hasBlanks⟩ cw_X5_hasBlanks rfl hc (by decide) hdd rfl rfl hrm hf kk
theorem cX7_recurrence_70 {G : gx} {d mc ms cc zz d2 mc2 ms2 : Nat} {L : List (Option Value)} {S : List Value} {h : ah} {Q Q2 : Option Value → ah → Prop} {k : Nat} {fs : List Value} {a0 a1 a2 : Value} (hM : Ct G mX1_learn d2 mc2 ms2 (.ref (k + 2) :: [a0, a1, a2]) h Q2) (hc : h (k + 2) = (1, .inl fs)) (hdd : d2 < d ∧ d ≤ 9) (hrm : (S.map fun v => v.category).sum ≤ 8) (hf : cc + mc2 ≤ mc ∧ zz + ms2 ≤ ms) (kk : ∀ r h2, Q2 r h2 → V G mX7_recurrence (d, mc, ms, cc + mc2, zz + ms2) 73 L (r.toList ++ S) h2 Q) : V G mX7_recurrence (d, mc, ms, cc, zz) 70 L (a2 :: a1 :: a0 :: .ref (k + 2) :: S) h Q := V_callVN (ci := 1) (T := TX1) (N := 5) hM dX7_recurrence_70 ⟨km_X7_274, ki_X1_learn, ks_X1_learn⟩ cw_X1_learn rfl hc (by decide) hdd rfl rfl hrm hf kk
theorem tX7_coefficient_0 {G : gx} {b : bg} {h : ah} {Q : Option Value → ah → Prop} {x1 : Int32} {ufirstFound : Int32} {ulatestFinding : Int32} {blength : Int32} {bmodulus : Int32} (g2 : h 2 = (7, .inl [.ref 3, .ref 5, .ref 9, .ref 17, .ref 23, .ref 36, .ref 38, .int ufirstFound, .int ulatestFinding])) (g38 : h 38 = (1, .inl [.ref 39, .ref 40, .ref 41, .int blength, .int bmodulus])) (q1 : (x1 < (1 : Int32)) → Q (some (.int (-2 : Int32))) h) (q2 : (¬ x1 < (1 : Int32)) → (x1 ≤ blength) → V G mX7_coefficient b 26 [some (.ref 2), some (.int x1)] [.int x1, .ref 38] h Q) (q3 : (¬ x1 < (1 : Int32)) → (¬ x1 ≤ blength) → Q (some (.int (-2 : Int32))) h) : V G mX7_coefficient b 0 [some (.ref 2), some (.int x1)] [] h Q := by
  refine V_iload_n dX7_coefficient_0 rfl rfl ?_
  refine V_iconst dX7_coefficient_1 ic_1 ?_
  refine V_icmp_lt (t := 16) dX7_coefficient_2 (by decide) (fun z1 => ?_) (fun z1 => ?_)
  ·
    refine V_bipush dX7_coefficient_16 bp_m2 ?_
    refine V_goto (t := 29) dX7_coefficient_18 (by decide) ?_
    exact V_iret dX7_coefficient_29 rfl (q1 z1)
  ·
    refine V_iload_n dX7_coefficient_5 rfl rfl ?_
    refine V_aload_n dX7_coefficient_6 rfl rfl ?_
    refine V_get (ci := 7) (j := 6) (C0 := RX7) (T := TX7) (N := 9) dX7_coefficient_7 rfl g2 (by decide) (by decide) kf_X7_56 rfl ?_
    refine V_getN (ci := 1) (j := 3) (C0 := RX1) (T := TX1) (N := 5) dX7_coefficient_10 rfl g38 (by decide) (by decide) kf_X7_278 rfl ?_
    refine V_icmp_le (t := 21) dX7_coefficient_13 (by decide) (fun z2 => ?_) (fun z2 => ?_)
    ·
      refine V_aload_n dX7_coefficient_21 rfl rfl ?_
      refine V_get (ci := 7) (j := 6) (C0 := RX7) (T := TX7) (N := 9) dX7_coefficient_22 rfl g2 (by decide) (by decide) kf_X7_56 rfl ?_
      refine V_iload_n dX7_coefficient_25 rfl rfl ?_
      exact V_sub (by exact (And.intro rfl (And.intro rfl True.intro))) (q2 z1 z2)
    ·
      refine V_bipush dX7_coefficient_16 bp_m2 ?_
      refine V_goto (t := 29) dX7_coefficient_18 (by decide) ?_
      exact V_iret dX7_coefficient_29 rfl (q3 z1 z2)
theorem tX7_coefficient_29 {G : gx} {b : bg} {h : ah} {Q : Option Value → ah → Prop} {x1 : Int32} {s0 : Int32} (q1 : Q (some (.int s0)) h) : V G mX7_coefficient b 29 [some (.ref 2), some (.int x1)] [.int s0] h Q := by
  exact V_iret dX7_coefficient_29 rfl (q1)
theorem cX7_coefficient_26 {G : gx} {d mc ms cc zz d2 mc2 ms2 : Nat} {L : List (Option Value)} {S : List Value} {h : ah} {Q Q2 : Option Value → ah → Prop} {k : Nat} {fs : List Value} {a0 : Value} (hM : Ct G mX1_coefficientAt d2 mc2 ms2 (.ref (k + 2) :: [a0]) h Q2) (hc : h (k + 2) = (1, .inl fs)) (hdd : d2 < d ∧ d ≤ 9) (hrm : (S.map fun v => v.category).sum ≤ 8) (hf : cc + mc2 ≤ mc ∧ zz + ms2 ≤ ms) (kk : ∀ r h2, Q2 r h2 → V G mX7_coefficient (d, mc, ms, cc + mc2, zz + ms2) 29 L (r.toList ++ S) h2 Q) : V G mX7_coefficient (d, mc, ms, cc, zz) 26 L (a0 :: .ref (k + 2) :: S) h Q := V_callVN (ci := 1) (T := TX1) (N := 5) hM dX7_coefficient_26 ⟨km_X7_279, ki_X1_coefficientAt, ks_X1_coefficientAt⟩ cw_X1_coefficientAt rfl hc (by decide) hdd rfl rfl hrm hf kk
theorem tX7_count_0 {G : gx} {b : bg} {h : ah} {Q : Option Value → ah → Prop} {x1 : Int32} (q1 : V G mX7_count b 1 [some (.ref 2), some (.int x1)] [.int x1] h Q) : V G mX7_count b 0 [some (.ref 2), some (.int x1)] [] h Q := by
  refine V_iload_n dX7_count_0 rfl rfl ?_
  exact V_sub (by exact (And.intro rfl (And.intro rfl True.intro))) (q1)
theorem tX7_count_40 {G : gx} {b : bg} {h : ah} {Q : Option Value → ah → Prop} {x1 : Int32} {ufirstFound : Int32} {ulatestFinding : Int32} {wletters : Int32} {wlength : Int32} {wall : Int32} {whigh : Int32} (g2 : h 2 = (7, .inl [.ref 3, .ref 5, .ref 9, .ref 17, .ref 23, .ref 36, .ref 38, .int ufirstFound, .int ulatestFinding])) (g3 : h 3 = (6, .inl [.ref 4, .int wletters, .int wlength, .int wall, .int whigh])) (q1 : Q (some (.int wletters)) h) : V G mX7_count b 40 [some (.ref 2), some (.int x1)] [] h Q := by
  refine V_aload_n dX7_count_40 rfl rfl ?_
  refine V_get (ci := 7) (j := 0) (C0 := RX7) (T := TX7) (N := 9) dX7_count_41 rfl g2 (by decide) (by decide) kf_X7_10 rfl ?_
  refine V_getN (ci := 6) (j := 1) (C0 := RX6) (T := TX6) (N := 5) dX7_count_44 rfl g3 (by decide) (by decide) kf_X7_272 rfl ?_
  exact V_iret dX7_count_47 rfl (q1)
theorem tX7_count_48 {G : gx} {b : bg} {h : ah} {Q : Option Value → ah → Prop} {x1 : Int32} {ufirstFound : Int32} {ulatestFinding : Int32} {wletters : Int32} {wlength : Int32} {wall : Int32} {whigh : Int32} (g2 : h 2 = (7, .inl [.ref 3, .ref 5, .ref 9, .ref 17, .ref 23, .ref 36, .ref 38, .int ufirstFound, .int ulatestFinding])) (g3 : h 3 = (6, .inl [.ref 4, .int wletters, .int wlength, .int wall, .int whigh])) (q1 : Q (some (.int wlength)) h) : V G mX7_count b 48 [some (.ref 2), some (.int x1)] [] h Q := by
  refine V_aload_n dX7_count_48 rfl rfl ?_
  refine V_get (ci := 7) (j := 0) (C0 := RX7) (T := TX7) (N := 9) dX7_count_49 rfl g2 (by decide) (by decide) kf_X7_10 rfl ?_
  refine V_getN (ci := 6) (j := 2) (C0 := RX6) (T := TX6) (N := 5) dX7_count_52 rfl g3 (by decide) (by decide) kf_X7_114 rfl ?_
  exact V_iret dX7_count_55 rfl (q1)
theorem tX7_count_56 {G : gx} {b : bg} {h : ah} {Q : Option Value → ah → Prop} {x1 : Int32} {ufirstFound : Int32} {ulatestFinding : Int32} {wletters : Int32} {wlength : Int32} {wall : Int32} {whigh : Int32} (g2 : h 2 = (7, .inl [.ref 3, .ref 5, .ref 9, .ref 17, .ref 23, .ref 36, .ref 38, .int ufirstFound, .int ulatestFinding])) (g3 : h 3 = (6, .inl [.ref 4, .int wletters, .int wlength, .int wall, .int whigh])) (q1 : Q (some (.int wall)) h) : V G mX7_count b 56 [some (.ref 2), some (.int x1)] [] h Q := by
  refine V_aload_n dX7_count_56 rfl rfl ?_
  refine V_get (ci := 7) (j := 0) (C0 := RX7) (T := TX7) (N := 9) dX7_count_57 rfl g2 (by decide) (by decide) kf_X7_10 rfl ?_
  refine V_getN (ci := 6) (j := 3) (C0 := RX6) (T := TX6) (N := 5) dX7_count_60 rfl g3 (by decide) (by decide) kf_X7_101 rfl ?_
  exact V_iret dX7_count_63 rfl (q1)
theorem tX7_count_64 {G : gx} {b : bg} {h : ah} {Q : Option Value → ah → Prop} {x1 : Int32} {ufirstFound : Int32} {ulatestFinding : Int32} {raddend : Int32} {rexchanges : Int32} {rleadsStand : Int32} {rnumbersStand : Int32} {rcycleCount : Int32} {rcountStands : Int32} (g2 : h 2 = (7, .inl [.ref 3, .ref 5, .ref 9, .ref 17, .ref 23, .ref 36, .ref 38, .int ufirstFound, .int ulatestFinding])) (g9 : h 9 = (2, .inl [.ref 3, .ref 10, .int raddend, .ref 11, .ref 12, .int rexchanges, .ref 13, .int rleadsStand, .ref 14, .ref 15, .int rnumbersStand, .int rcycleCount, .int rcountStands, .ref 16])) (q1 : Q (some (.int rexchanges)) h) : V G mX7_count b 64 [some (.ref 2), some (.int x1)] [] h Q := by
  refine V_aload_n dX7_count_64 rfl rfl ?_
  refine V_get (ci := 7) (j := 2) (C0 := RX7) (T := TX7) (N := 9) dX7_count_65 rfl g2 (by decide) (by decide) kf_X7_28 rfl ?_
  refine V_getN (ci := 2) (j := 5) (C0 := RX2) (T := TX2) (N := 14) dX7_count_68 rfl g9 (by decide) (by decide) kf_X7_153 rfl ?_
  exact V_iret dX7_count_71 rfl (q1)
theorem tX7_count_72 {G : gx} {b : bg} {h : ah} {Q : Option Value → ah → Prop} {x1 : Int32} {ufirstFound : Int32} {ulatestFinding : Int32} {okind : Int32} {ofirstMatch : Int32} (g2 : h 2 = (7, .inl [.ref 3, .ref 5, .ref 9, .ref 17, .ref 23, .ref 36, .ref 38, .int ufirstFound, .int ulatestFinding])) (g17 : h 17 = (4, .inl [.ref 3, .ref 18, .ref 19, .int okind, .ref 20, .ref 21, .ref 22, .int ofirstMatch])) (q1 : Q (some (.int okind)) h) : V G mX7_count b 72 [some (.ref 2), some (.int x1)] [] h Q := by
  refine V_aload_n dX7_count_72 rfl rfl ?_
  refine V_get (ci := 7) (j := 3) (C0 := RX7) (T := TX7) (N := 9) dX7_count_73 rfl g2 (by decide) (by decide) kf_X7_35 rfl ?_
  refine V_getN (ci := 4) (j := 3) (C0 := RX4) (T := TX4) (N := 8) dX7_count_76 rfl g17 (by decide) (by decide) kf_X7_282 rfl ?_
  exact V_iret dX7_count_79 rfl (q1)
theorem tX7_count_80 {G : gx} {b : bg} {h : ah} {Q : Option Value → ah → Prop} {x1 : Int32} {ufirstFound : Int32} {ulatestFinding : Int32} (g2 : h 2 = (7, .inl [.ref 3, .ref 5, .ref 9, .ref 17, .ref 23, .ref 36, .ref 38, .int ufirstFound, .int ulatestFinding])) (q1 : Q (some (.int ulatestFinding)) h) : V G mX7_count b 80 [some (.ref 2), some (.int x1)] [] h Q := by
  refine V_aload_n dX7_count_80 rfl rfl ?_
  refine V_get (ci := 7) (j := 8) (C0 := RX7) (T := TX7) (N := 9) dX7_count_81 rfl g2 (by decide) (by decide) kf_X7_64 rfl ?_
  exact V_iret dX7_count_84 rfl (q1)
theorem tX7_count_85 {G : gx} {b : bg} {h : ah} {Q : Option Value → ah → Prop} {x1 : Int32} (q1 : Q (some (.int (-2 : Int32))) h) : V G mX7_count b 85 [some (.ref 2), some (.int x1)] [] h Q := by
  refine V_bipush dX7_count_85 bp_m2 ?_
  exact V_iret dX7_count_87 rfl (q1)
theorem tX7_digest_0 {G : gx} {b : bg} {h : ah} {Q : Option Value → ah → Prop} (q1 : V G mX7_digest b 6 [some (.ref 2), some (.long (17 : Int64)), none, some (.int (0 : Int32))] [] h Q) : V G mX7_digest b 0 [some (.ref 2)] [] h Q := by
  refine V_ldc2 dX7_digest_0 kk_X7_285 ?_
  refine V_lstore_n dX7_digest_3 rfl (Nat.le_of_ble_eq_true rfl) ?_
  refine V_iconst dX7_digest_4 ic_0 ?_
  refine V_istore_n dX7_digest_5 rfl (Nat.le_of_ble_eq_true rfl) ?_
  exact V_sub (by exact (And.intro rfl (And.intro rfl (And.intro rfl True.intro)))) (q1)
theorem tX7_digest_6 {G : gx} {b : bg} {h : ah} {Q : Option Value → ah → Prop} {y1 : Int64} {x3 : Int32} {ufirstFound : Int32} {ulatestFinding : Int32} (g2 : h 2 = (7, .inl [.ref 3, .ref 5, .ref 9, .ref 17, .ref 23, .ref 36, .ref 38, .int ufirstFound, .int ulatestFinding])) (q1 : ((5 : Int32) ≤ x3) → V G mX7_digest b 34 [some (.ref 2), some (.long y1), none, some (.int x3)] [.ref 9] h Q) (q2 : (¬ (5 : Int32) ≤ x3) → V G mX7_digest b 18 [some (.ref 2), some (.long y1), none, some (.int x3)] [.int x3, .ref 2, .long ((31 : Int64) * y1)] h Q) : V G mX7_digest b 6 [some (.ref 2), some (.long y1), none, some (.int x3)] [] h Q := by
  refine V_iload_n dX7_digest_6 rfl rfl ?_
  refine V_iconst dX7_digest_7 ic_5 ?_
  refine V_icmp_ge (t := 30) dX7_digest_8 (by decide) (fun z1 => ?_) (fun z1 => ?_)
  ·
    refine V_aload_n dX7_digest_30 rfl rfl ?_
    refine V_get (ci := 7) (j := 2) (C0 := RX7) (T := TX7) (N := 9) dX7_digest_31 rfl g2 (by decide) (by decide) kf_X7_28 rfl ?_
    exact V_sub (by exact (And.intro rfl (And.intro rfl (And.intro rfl True.intro)))) (q1 z1)
  ·
    refine V_ldc2 dX7_digest_11 kk_X7_287 ?_
    refine V_lload_n dX7_digest_14 rfl rfl ?_
    refine V_lmul dX7_digest_15 ?_
    refine V_aload_n dX7_digest_16 rfl rfl ?_
    refine V_iload_n dX7_digest_17 rfl rfl ?_
    exact V_sub (by exact (And.intro rfl (And.intro rfl (And.intro rfl True.intro)))) (q2 z1)
theorem tX7_digest_41 {G : gx} {b : bg} {h : ah} {Q : Option Value → ah → Prop} {y1 : Int64} {x4 : Int32} {ufirstFound : Int32} {ulatestFinding : Int32} {wletters : Int32} {wlength : Int32} {wall : Int32} {whigh : Int32} {rlead : Nat → Int32} (g2 : h 2 = (7, .inl [.ref 3, .ref 5, .ref 9, .ref 17, .ref 23, .ref 36, .ref 38, .int ufirstFound, .int ulatestFinding])) (g3 : h 3 = (6, .inl [.ref 4, .int wletters, .int wlength, .int wall, .int whigh])) (g13 : h 13 = (0, .inr (20000, .inl rlead))) (q1 : (wall ≤ x4) → V G mX7_digest b 75 [some (.ref 2), some (.long y1), none, some (.ref 13), some (.int x4)] [.ref 17] h Q) (q2 : (¬ wall ≤ x4) → vp_in x4 20000) (q3 : (¬ wall ≤ x4) → V G mX7_digest b 41 [some (.ref 2), some (.long (((31 : Int64) * y1) + (rlead x4.toNatClampNeg).toInt64)), none, some (.ref 13), some (.int (x4 + (1 : Int32)))] [] h Q) : V G mX7_digest b 41 [some (.ref 2), some (.long y1), none, some (.ref 13), some (.int x4)] [] h Q := by
  refine V_iload dX7_digest_41 rfl ?_
  refine V_aload_n dX7_digest_43 rfl rfl ?_
  refine V_get (ci := 7) (j := 0) (C0 := RX7) (T := TX7) (N := 9) dX7_digest_44 rfl g2 (by decide) (by decide) kf_X7_10 rfl ?_
  refine V_getN (ci := 6) (j := 3) (C0 := RX6) (T := TX6) (N := 5) dX7_digest_47 rfl g3 (by decide) (by decide) kf_X7_101 rfl ?_
  refine V_icmp_ge (t := 71) dX7_digest_50 (by decide) (fun z1 => ?_) (fun z1 => ?_)
  ·
    refine V_aload_n dX7_digest_71 rfl rfl ?_
    refine V_get (ci := 7) (j := 3) (C0 := RX7) (T := TX7) (N := 9) dX7_digest_72 rfl g2 (by decide) (by decide) kf_X7_35 rfl ?_
    exact V_sub (by exact (And.intro rfl (And.intro rfl (And.intro rfl (And.intro rfl True.intro))))) (q1 z1)
  ·
    refine V_ldc2 dX7_digest_53 kk_X7_287 ?_
    refine V_lload_n dX7_digest_56 rfl rfl ?_
    refine V_lmul dX7_digest_57 ?_
    refine V_aload_n dX7_digest_58 rfl rfl ?_
    refine V_iload dX7_digest_59 rfl ?_
    refine V_iald dX7_digest_61 g13 (q2 z1) ?_
    refine V_i2l dX7_digest_62 ?_
    refine V_ladd dX7_digest_63 ?_
    refine V_lstore_n dX7_digest_64 rfl (Nat.le_of_ble_eq_true rfl) ?_
    refine V_inc dX7_digest_65 ic_1 rfl (Nat.le_of_ble_eq_true rfl) ?_
    refine V_goto (t := 41) dX7_digest_68 (by decide) ?_
    exact V_sub (by exact (And.intro rfl (And.intro rfl (And.intro rfl (And.intro rfl True.intro))))) (q3 z1)
theorem tX7_digest_84 {G : gx} {b : bg} {h : ah} {Q : Option Value → ah → Prop} {y1 : Int64} {x4 : Int32} {ufirstFound : Int32} {ulatestFinding : Int32} {wletters : Int32} {wlength : Int32} {wall : Int32} {whigh : Int32} {okind : Int32} {ofirstMatch : Int32} {olet : Nat → Int32} (g2 : h 2 = (7, .inl [.ref 3, .ref 5, .ref 9, .ref 17, .ref 23, .ref 36, .ref 38, .int ufirstFound, .int ulatestFinding])) (g3 : h 3 = (6, .inl [.ref 4, .int wletters, .int wlength, .int wall, .int whigh])) (g17 : h 17 = (4, .inl [.ref 3, .ref 18, .ref 19, .int okind, .ref 20, .ref 21, .ref 22, .int ofirstMatch])) (g18 : h 18 = (1, .inr (20000, .inl olet))) (q1 : (wall ≤ x4) → Q (some (.long y1)) h) (q2 : (¬ wall ≤ x4) → vp_in x4 20000) (q3 : (¬ wall ≤ x4) → V G mX7_digest b 84 [some (.ref 2), some (.long (((31 : Int64) * y1) + (olet x4.toNatClampNeg).toInt64)), none, some (.ref 13), some (.int (x4 + (1 : Int32)))] [] h Q) : V G mX7_digest b 84 [some (.ref 2), some (.long y1), none, some (.ref 13), some (.int x4)] [] h Q := by
  refine V_iload dX7_digest_84 rfl ?_
  refine V_aload_n dX7_digest_86 rfl rfl ?_
  refine V_get (ci := 7) (j := 0) (C0 := RX7) (T := TX7) (N := 9) dX7_digest_87 rfl g2 (by decide) (by decide) kf_X7_10 rfl ?_
  refine V_getN (ci := 6) (j := 3) (C0 := RX6) (T := TX6) (N := 5) dX7_digest_90 rfl g3 (by decide) (by decide) kf_X7_101 rfl ?_
  refine V_icmp_ge (t := 120) dX7_digest_93 (by decide) (fun z1 => ?_) (fun z1 => ?_)
  ·
    refine V_lload_n dX7_digest_120 rfl rfl ?_
    exact V_lret dX7_digest_121 rfl (q1 z1)
  ·
    refine V_ldc2 dX7_digest_96 kk_X7_287 ?_
    refine V_lload_n dX7_digest_99 rfl rfl ?_
    refine V_lmul dX7_digest_100 ?_
    refine V_aload_n dX7_digest_101 rfl rfl ?_
    refine V_get (ci := 7) (j := 3) (C0 := RX7) (T := TX7) (N := 9) dX7_digest_102 rfl g2 (by decide) (by decide) kf_X7_35 rfl ?_
    refine V_getN (ci := 4) (j := 1) (C0 := RX4) (T := TX4) (N := 8) dX7_digest_105 rfl g17 (by decide) (by decide) kf_X7_191 rfl ?_
    refine V_iload dX7_digest_108 rfl ?_
    refine V_bald dX7_digest_110 g18 (q2 z1) ?_
    refine V_i2l dX7_digest_111 ?_
    refine V_ladd dX7_digest_112 ?_
    refine V_lstore_n dX7_digest_113 rfl (Nat.le_of_ble_eq_true rfl) ?_
    refine V_inc dX7_digest_114 ic_1 rfl (Nat.le_of_ble_eq_true rfl) ?_
    refine V_goto (t := 84) dX7_digest_117 (by decide) ?_
    exact V_sub (by exact (And.intro rfl (And.intro rfl (And.intro rfl (And.intro rfl True.intro))))) (q3 z1)
theorem tX7_digest_21 {G : gx} {b : bg} {h : ah} {Q : Option Value → ah → Prop} {y1 : Int64} {x3 : Int32} {s0 : Int32} {s1 : Int64} (q1 : V G mX7_digest b 6 [some (.ref 2), some (.long (s1 + s0.toInt64)), none, some (.int (x3 + (1 : Int32)))] [] h Q) : V G mX7_digest b 21 [some (.ref 2), some (.long y1), none, some (.int x3)] [.int s0, .long s1] h Q := by
  refine V_i2l dX7_digest_21 ?_
  refine V_ladd dX7_digest_22 ?_
  refine V_lstore_n dX7_digest_23 rfl (Nat.le_of_ble_eq_true rfl) ?_
  refine V_inc dX7_digest_24 ic_1 rfl (Nat.le_of_ble_eq_true rfl) ?_
  refine V_goto (t := 6) dX7_digest_27 (by decide) ?_
  exact V_sub (by exact (And.intro rfl (And.intro rfl (And.intro rfl True.intro)))) (q1)
theorem tX7_digest_37 {G : gx} {b : bg} {h : ah} {Q : Option Value → ah → Prop} {y1 : Int64} {x3 : Int32} (q1 : V G mX7_digest b 41 [some (.ref 2), some (.long y1), none, some (.ref 13), some (.int (0 : Int32))] [] h Q) : V G mX7_digest b 37 [some (.ref 2), some (.long y1), none, some (.int x3)] [.ref 13] h Q := by
  refine V_astore_n dX7_digest_37 rfl (Nat.le_of_ble_eq_true rfl) ?_
  refine V_iconst dX7_digest_38 ic_0 ?_
  refine V_istore dX7_digest_39 (Nat.le_of_ble_eq_true rfl) ?_
  exact V_sub (by exact (And.intro rfl (And.intro rfl (And.intro rfl (And.intro rfl True.intro))))) (q1)
theorem tX7_digest_78 {G : gx} {b : bg} {h : ah} {Q : Option Value → ah → Prop} {y1 : Int64} {x4 : Int32} {s0 : Int32} (q1 : (s0 = (0 : Int32)) → Q (some (.long y1)) h) (q2 : (¬ s0 = (0 : Int32)) → V G mX7_digest b 84 [some (.ref 2), some (.long y1), none, some (.ref 13), some (.int (0 : Int32))] [] h Q) : V G mX7_digest b 78 [some (.ref 2), some (.long y1), none, some (.ref 13), some (.int x4)] [.int s0] h Q := by
  refine V_if_eq (t := 120) dX7_digest_78 (by decide) (fun z1 => ?_) (fun z1 => ?_)
  ·
    refine V_lload_n dX7_digest_120 rfl rfl ?_
    exact V_lret dX7_digest_121 rfl (q1 z1)
  ·
    refine V_iconst dX7_digest_81 ic_0 ?_
    refine V_istore dX7_digest_82 (Nat.le_of_ble_eq_true rfl) ?_
    exact V_sub (by exact (And.intro rfl (And.intro rfl (And.intro rfl (And.intro rfl True.intro))))) (q2 z1)
theorem cX7_digest_18 {G : gx} {d mc ms cc zz d2 mc2 ms2 : Nat} {L : List (Option Value)} {S : List Value} {h : ah} {Q Q2 : Option Value → ah → Prop} {k : Nat} {fs : List Value} {a0 : Value} (hM : Ct G mX7_count d2 mc2 ms2 (.ref (k + 2) :: [a0]) h Q2) (hc : h (k + 2) = (7, .inl fs)) (hdd : d2 < d ∧ d ≤ 9) (hrm : (S.map fun v => v.category).sum ≤ 8) (hf : cc + mc2 ≤ mc ∧ zz + ms2 ≤ ms) (kk : ∀ r h2, Q2 r h2 → V G mX7_digest (d, mc, ms, cc + mc2, zz + ms2) 21 L (r.toList ++ S) h2 Q) : V G mX7_digest (d, mc, ms, cc, zz) 18 L (a0 :: .ref (k + 2) :: S) h Q := V_callV (ci := 7) (T := TX7) (N := 9) hM dX7_digest_18 ⟨km_X7_289, ki_X7_count, ks_X7_count⟩ cw_X7_count rfl hc (by decide) hdd rfl rfl hrm hf kk
theorem cX7_digest_34 {G : gx} {d mc ms cc zz d2 mc2 ms2 : Nat} {L : List (Option Value)} {S : List Value} {h : ah} {Q Q2 : Option Value → ah → Prop} {k : Nat} {fs : List Value} (hM : Ct G mX2_leads d2 mc2 ms2 (.ref (k + 2) :: []) h Q2) (hc : h (k + 2) = (2, .inl fs)) (hdd : d2 < d ∧ d ≤ 9) (hrm : (S.map fun v => v.category).sum ≤ 8) (hf : cc + mc2 ≤ mc ∧ zz + ms2 ≤ ms) (kk : ∀ r h2, Q2 r h2 → V G mX7_digest (d, mc, ms, cc + mc2, zz + ms2) 37 L (r.toList ++ S) h2 Q) : V G mX7_digest (d, mc, ms, cc, zz) 34 L (.ref (k + 2) :: S) h Q := V_callVN (ci := 2) (T := TX2) (N := 14) hM dX7_digest_34 ⟨km_X7_180, ki_X2_leads, ks_X2_leads⟩ cw_X2_leads rfl hc (by decide) hdd rfl rfl hrm hf kk
theorem cX7_digest_75 {G : gx} {d mc ms cc zz d2 mc2 ms2 : Nat} {L : List (Option Value)} {S : List Value} {h : ah} {Q Q2 : Option Value → ah → Prop} {k : Nat} {fs : List Value} (hM : Ct G mX4_isThere d2 mc2 ms2 (.ref (k + 2) :: []) h Q2) (hc : h (k + 2) = (4, .inl fs)) (hdd : d2 < d ∧ d ≤ 9) (hrm : (S.map fun v => v.category).sum ≤ 8) (hf : cc + mc2 ≤ mc ∧ zz + ms2 ≤ ms) (kk : ∀ r h2, Q2 r h2 → V G mX7_digest (d, mc, ms, cc + mc2, zz + ms2) 78 L (r.toList ++ S) h2 Q) : V G mX7_digest (d, mc, ms, cc, zz) 75 L (.ref (k + 2) :: S) h Q := V_callVN (ci := 4) (T := TX4) (N := 8) hM dX7_digest_75 ⟨km_X7_195, ki_X4_isThere, ks_X4_isThere⟩ cw_X4_isThere rfl hc (by decide) hdd rfl rfl hrm hf kk
theorem tX7_isTape_0 {G : gx} {b : bg} {h : ah} {Q : Option Value → ah → Prop} {x0 : Int32} (q1 : (x0 < (0 : Int32)) → Q (some (.int (0 : Int32))) h) (q2 : (¬ x0 < (0 : Int32)) → ((4 : Int32) ≤ x0) → Q (some (.int (0 : Int32))) h) (q3 : (¬ x0 < (0 : Int32)) → (¬ (4 : Int32) ≤ x0) → Q (some (.int (1 : Int32))) h) : V G mX7_isTape b 0 [some (.int x0)] [] h Q := by
  refine V_iload_n dX7_isTape_0 rfl rfl ?_
  refine V_if_lt (t := 13) dX7_isTape_1 (by decide) (fun z1 => ?_) (fun z1 => ?_)
  ·
    refine V_iconst dX7_isTape_13 ic_0 ?_
    exact V_zret dX7_isTape_14 rfl rfl (q1 z1)
  ·
    refine V_iload_n dX7_isTape_4 rfl rfl ?_
    refine V_iconst dX7_isTape_5 ic_4 ?_
    refine V_icmp_ge (t := 13) dX7_isTape_6 (by decide) (fun z2 => ?_) (fun z2 => ?_)
    ·
      refine V_iconst dX7_isTape_13 ic_0 ?_
      exact V_zret dX7_isTape_14 rfl rfl (q2 z1 z2)
    ·
      refine V_iconst dX7_isTape_9 ic_1 ?_
      refine V_goto (t := 14) dX7_isTape_10 (by decide) ?_
      exact V_zret dX7_isTape_14 rfl rfl (q3 z1 z2)
theorem tX7_isForm_0 {G : gx} {b : bg} {h : ah} {Q : Option Value → ah → Prop} {x0 : Int32} (q1 : (x0 < (0 : Int32)) → Q (some (.int (0 : Int32))) h) (q2 : (¬ x0 < (0 : Int32)) → ((2 : Int32) < x0) → Q (some (.int (0 : Int32))) h) (q3 : (¬ x0 < (0 : Int32)) → (¬ (2 : Int32) < x0) → Q (some (.int (1 : Int32))) h) : V G mX7_isForm b 0 [some (.int x0)] [] h Q := by
  refine V_iload_n dX7_isForm_0 rfl rfl ?_
  refine V_if_lt (t := 13) dX7_isForm_1 (by decide) (fun z1 => ?_) (fun z1 => ?_)
  ·
    refine V_iconst dX7_isForm_13 ic_0 ?_
    exact V_zret dX7_isForm_14 rfl rfl (q1 z1)
  ·
    refine V_iload_n dX7_isForm_4 rfl rfl ?_
    refine V_iconst dX7_isForm_5 ic_2 ?_
    refine V_icmp_gt (t := 13) dX7_isForm_6 (by decide) (fun z2 => ?_) (fun z2 => ?_)
    ·
      refine V_iconst dX7_isForm_13 ic_0 ?_
      exact V_zret dX7_isForm_14 rfl rfl (q2 z1 z2)
    ·
      refine V_iconst dX7_isForm_9 ic_1 ?_
      refine V_goto (t := 14) dX7_isForm_10 (by decide) ?_
      exact V_zret dX7_isForm_14 rfl rfl (q3 z1 z2)
theorem tX7_finding_0 {G : gx} {b : bg} {h : ah} {Q : Option Value → ah → Prop} {x1 : Int32} {ufirstFound : Int32} {ulatestFinding : Int32} (g2 : h 2 = (7, .inl [.ref 3, .ref 5, .ref 9, .ref 17, .ref 23, .ref 36, .ref 38, .int ufirstFound, .int ulatestFinding])) (q1 : Q (some (.int ((-10 : Int32) - x1))) (va_up h 2 (7, .inl [.ref 3, .ref 5, .ref 9, .ref 17, .ref 23, .ref 36, .ref 38, .int ufirstFound, .int x1]))) : V G mX7_finding b 0 [some (.ref 2), some (.int x1)] [] h Q := by
  refine V_aload_n dX7_finding_0 rfl rfl ?_
  refine V_iload_n dX7_finding_1 rfl rfl ?_
  refine V_put (ci := 7) (j := 8) (C0 := RX7) (T := TX7) (N := 9) (ty := .int) dX7_finding_2 rfl g2 (by decide) (by decide) kf_X7_64 rfl (by decide +kernel) rfl rfl (Nat.le_of_ble_eq_true rfl) ?_
  refine V_bipush dX7_finding_5 bp_m10 ?_
  refine V_iload_n dX7_finding_7 rfl rfl ?_
  refine V_isub dX7_finding_8 ?_
  exact V_iret dX7_finding_9 rfl (q1)
theorem tX7_faultOfItem_0 {G : gx} {b : bg} {h : ah} {Q : Option Value → ah → Prop} {p0 : Nat} {x1 : Int32} {x2 : Int32} (q1 : V G mX7_faultOfItem b 1 [some (.ref (p0 + 2)), some (.int x1), some (.int x2)] [.ref (p0 + 2)] h Q) : V G mX7_faultOfItem b 0 [some (.ref (p0 + 2)), some (.int x1), some (.int x2)] [] h Q := by
  refine V_aload_n dX7_faultOfItem_0 rfl rfl ?_
  exact V_sub (by exact (And.intro rfl (And.intro rfl (And.intro rfl True.intro)))) (q1)
theorem tX7_faultOfItem_4 {G : gx} {b : bg} {h : ah} {Q : Option Value → ah → Prop} {p0 : Nat} {x1 : Int32} {x2 : Int32} {s0 : Int32} {ti : Nat} {tb : Nat} {tform : Int32} {tlength : Int32} (gp02 : h (p0 + 2) = (5, .inl [.ref 3, .ref (ti + 2), .int tform, .int tlength, .ref (tb + 2)])) (q1 : (s0 = (0 : Int32)) → (tform = x1) → V G mX7_faultOfItem b 22 [some (.ref (p0 + 2)), some (.int x1), some (.int x2)] [.int (1 : Int32), .int x2, .ref (p0 + 2)] h Q) (q2 : (s0 = (0 : Int32)) → (¬ tform = x1) → Q (some (.int (3 : Int32))) h) (q3 : (¬ s0 = (0 : Int32)) → Q (some (.int (1 : Int32))) h) : V G mX7_faultOfItem b 4 [some (.ref (p0 + 2)), some (.int x1), some (.int x2)] [.int s0] h Q := by
  refine V_if_eq (t := 9) dX7_faultOfItem_4 (by decide) (fun z1 => ?_) (fun z1 => ?_)
  ·
    refine V_aload_n dX7_faultOfItem_9 rfl rfl ?_
    refine V_getN (ci := 5) (j := 2) (C0 := RX5) (T := TX5) (N := 5) dX7_faultOfItem_10 rfl gp02 (by decide) (by decide) kf_X7_232 rfl ?_
    refine V_iload_n dX7_faultOfItem_13 rfl rfl ?_
    refine V_icmp_eq (t := 19) dX7_faultOfItem_14 (by decide) (fun z2 => ?_) (fun z2 => ?_)
    ·
      refine V_aload_n dX7_faultOfItem_19 rfl rfl ?_
      refine V_iload_n dX7_faultOfItem_20 rfl rfl ?_
      refine V_iconst dX7_faultOfItem_21 ic_1 ?_
      exact V_sub (by exact (And.intro rfl (And.intro rfl (And.intro rfl True.intro)))) (q1 z1 z2)
    ·
      refine V_iconst dX7_faultOfItem_17 ic_3 ?_
      exact V_iret dX7_faultOfItem_18 rfl (q2 z1 z2)
  ·
    refine V_iconst dX7_faultOfItem_7 ic_1 ?_
    exact V_iret dX7_faultOfItem_8 rfl (q3 z1)
theorem tX7_faultOfItem_25 {G : gx} {b : bg} {h : ah} {Q : Option Value → ah → Prop} {p0 : Nat} {x1 : Int32} {x2 : Int32} {s0 : Int32} (q1 : (s0 = (0 : Int32)) → Q (some (.int (2 : Int32))) h) (q2 : (¬ s0 = (0 : Int32)) → Q (some (.int (0 : Int32))) h) : V G mX7_faultOfItem b 25 [some (.ref (p0 + 2)), some (.int x1), some (.int x2)] [.int s0] h Q := by
  refine V_if_eq (t := 32) dX7_faultOfItem_25 (by decide) (fun z1 => ?_) (fun z1 => ?_)
  ·
    refine V_iconst dX7_faultOfItem_32 ic_2 ?_
    exact V_iret dX7_faultOfItem_33 rfl (q1 z1)
  ·
    refine V_iconst dX7_faultOfItem_28 ic_0 ?_
    refine V_goto (t := 33) dX7_faultOfItem_29 (by decide) ?_
    exact V_iret dX7_faultOfItem_33 rfl (q2 z1)
theorem cX7_faultOfItem_1 {G : gx} {d mc ms cc zz d2 mc2 ms2 : Nat} {L : List (Option Value)} {S : List Value} {h : ah} {Q Q2 : Option Value → ah → Prop} {k : Nat} {fs : List Value} (hM : Ct G mX5_isLost d2 mc2 ms2 (.ref (k + 2) :: []) h Q2) (hc : h (k + 2) = (5, .inl fs)) (hdd : d2 < d ∧ d ≤ 9) (hrm : (S.map fun v => v.category).sum ≤ 8) (hf : cc + mc2 ≤ mc ∧ zz + ms2 ≤ ms) (kk : ∀ r h2, Q2 r h2 → V G mX7_faultOfItem (d, mc, ms, cc + mc2, zz + ms2) 4 L (r.toList ++ S) h2 Q) : V G mX7_faultOfItem (d, mc, ms, cc, zz) 1 L (.ref (k + 2) :: S) h Q := V_callVN (ci := 5) (T := TX5) (N := 5) hM dX7_faultOfItem_1 ⟨km_X7_214, ki_X5_isLost, ks_X5_isLost⟩ cw_X5_isLost rfl hc (by decide) hdd rfl rfl hrm hf kk
theorem cX7_faultOfItem_22 {G : gx} {d mc ms cc zz d2 mc2 ms2 : Nat} {L : List (Option Value)} {S : List Value} {h : ah} {Q Q2 : Option Value → ah → Prop} {k : Nat} {fs : List Value} {a0 a1 : Value} (hM : Ct G mX5_hasItems d2 mc2 ms2 (.ref (k + 2) :: [a0, a1]) h Q2) (hc : h (k + 2) = (5, .inl fs)) (hdd : d2 < d ∧ d ≤ 9) (hrm : (S.map fun v => v.category).sum ≤ 8) (hf : cc + mc2 ≤ mc ∧ zz + ms2 ≤ ms) (kk : ∀ r h2, Q2 r h2 → V G mX7_faultOfItem (d, mc, ms, cc + mc2, zz + ms2) 25 L (r.toList ++ S) h2 Q) : V G mX7_faultOfItem (d, mc, ms, cc, zz) 22 L (a1 :: a0 :: .ref (k + 2) :: S) h Q := V_callVN (ci := 5) (T := TX5) (N := 5) hM dX7_faultOfItem_22 ⟨km_X7_235, ki_X5_hasItems, ks_X5_hasItems⟩ cw_X5_hasItems rfl hc (by decide) hdd rfl rfl hrm hf kk
