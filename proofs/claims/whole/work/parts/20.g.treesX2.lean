/-! trees of X2 -/
theorem tX2_becomeTurning_0 {G : gx} {b : bg} {h : ah} {Q : Option Value → ah → Prop} {raddend : Int32} {rexchanges : Int32} {rleadsStand : Int32} {rnumbersStand : Int32} {rcycleCount : Int32} {rcountStands : Int32} (g9 : h 9 = (2, .inl [.ref 3, .ref 10, .int raddend, .ref 11, .ref 12, .int rexchanges, .ref 13, .int rleadsStand, .ref 14, .ref 15, .int rnumbersStand, .int rcycleCount, .int rcountStands, .ref 16])) (q1 : V G mX2_becomeTurning b 5 [some (.ref 9)] [.int (0 : Int32), .ref 10] h Q) : V G mX2_becomeTurning b 0 [some (.ref 9)] [] h Q := by
  refine V_aload_n dX2_becomeTurning_0 rfl rfl ?_
  refine V_get (ci := 2) (j := 1) (C0 := RX2) (T := TX2) (N := 14) dX2_becomeTurning_1 rfl g9 (by decide) (by decide) kf_X2_9 rfl ?_
  refine V_iconst dX2_becomeTurning_4 ic_0 ?_
  exact V_sub (by exact (And.intro rfl True.intro)) (q1)
theorem tX2_becomeTurning_8 {G : gx} {b : bg} {h : ah} {Q : Option Value → ah → Prop} {raddend : Int32} {rexchanges : Int32} {rleadsStand : Int32} {rnumbersStand : Int32} {rcycleCount : Int32} {rcountStands : Int32} {rfac : Nat → Int32} (g9 : h 9 = (2, .inl [.ref 3, .ref 10, .int raddend, .ref 11, .ref 12, .int rexchanges, .ref 13, .int rleadsStand, .ref 14, .ref 15, .int rnumbersStand, .int rcycleCount, .int rcountStands, .ref 16])) (g10 : h 10 = (0, .inr (14, .inl rfac))) (q1 : vp_in (0 : Int32) 14) (q2 : V G mX2_becomeTurning b 21 [some (.ref 9)] [.ref 9] (va_up (va_up h 10 (0, .inr (14, .inl (upd rfac (0 : Int32).toNatClampNeg (1 : Int32))))) 9 (2, .inl [.ref 3, .ref 10, .int (0 : Int32), .ref 11, .ref 12, .int rexchanges, .ref 13, .int rleadsStand, .ref 14, .ref 15, .int rnumbersStand, .int rcycleCount, .int rcountStands, .ref 16])) Q) : V G mX2_becomeTurning b 8 [some (.ref 9)] [] h Q := by
  refine V_aload_n dX2_becomeTurning_8 rfl rfl ?_
  refine V_get (ci := 2) (j := 1) (C0 := RX2) (T := TX2) (N := 14) dX2_becomeTurning_9 rfl g9 (by decide) (by decide) kf_X2_9 rfl ?_
  refine V_iconst dX2_becomeTurning_12 ic_0 ?_
  refine V_iconst dX2_becomeTurning_13 ic_1 ?_
  refine V_iast dX2_becomeTurning_14 g10 (q1) ?_
  refine V_aload_n dX2_becomeTurning_15 rfl rfl ?_
  refine V_iconst dX2_becomeTurning_16 ic_0 ?_
  refine V_put (ci := 2) (j := 2) (C0 := RX2) (T := TX2) (N := 14) (ty := .int) dX2_becomeTurning_17 rfl g9 (by decide) (by decide) kf_X2_46 rfl (by decide +kernel) rfl rfl (Nat.le_of_ble_eq_true rfl) ?_
  refine V_aload_n dX2_becomeTurning_20 rfl rfl ?_
  exact V_sub (by exact (And.intro rfl True.intro)) (q2)
theorem tX2_becomeTurning_24 {G : gx} {b : bg} {h : ah} {Q : Option Value → ah → Prop} (q1 : Q none h) : V G mX2_becomeTurning b 24 [some (.ref 9)] [] h Q := by
  exact V_vret dX2_becomeTurning_24 rfl (q1)
theorem cX2_becomeTurning_5 {G : gx} {d mc ms cc zz d2 mc2 ms2 : Nat} {L : List (Option Value)} {S : List Value} {h : ah} {Q Q2 : Option Value → ah → Prop} {a0 a1 : Value} (hM : Ct G mJ7_fill_53178 d2 mc2 ms2 [a0, a1] h Q2) (hdd : d2 < d ∧ d ≤ 9) (hrm : (S.map fun v => v.category).sum ≤ 8) (hf : cc + mc2 ≤ mc ∧ zz + ms2 ≤ ms) (kk : ∀ r h2, Q2 r h2 → V G mX2_becomeTurning (d, mc, ms, cc + mc2, zz + ms2) 8 L (r.toList ++ S) h2 Q) : V G mX2_becomeTurning (d, mc, ms, cc, zz) 5 L (a1 :: a0 :: S) h Q := V_callS hM dX2_becomeTurning_5 ⟨km_X2_40, kt_J7_fill_53178⟩ cw_J7_fill_53178 hdd rfl rfl hrm hf kk
theorem cX2_becomeTurning_21 {G : gx} {d mc ms cc zz d2 mc2 ms2 : Nat} {L : List (Option Value)} {S : List Value} {h : ah} {Q Q2 : Option Value → ah → Prop} {k : Nat} {fs : List Value} (hM : Ct G mX2_forgetExchanges d2 mc2 ms2 (.ref (k + 2) :: []) h Q2) (hc : h (k + 2) = (2, .inl fs)) (hdd : d2 < d ∧ d ≤ 9) (hrm : (S.map fun v => v.category).sum ≤ 8) (hf : cc + mc2 ≤ mc ∧ zz + ms2 ≤ ms) (kk : ∀ r h2, Q2 r h2 → V G mX2_becomeTurning (d, mc, ms, cc + mc2, zz + ms2) 24 L (r.toList ++ S) h2 Q) : V G mX2_becomeTurning (d, mc, ms, cc, zz) 21 L (.ref (k + 2) :: S) h Q := V_callV (ci := 2) (T := TX2) (N := 14) hM dX2_becomeTurning_21 ⟨km_X2_50, ki_X2_forgetExchanges, ks_X2_forgetExchanges⟩ cw_X2_forgetExchanges rfl hc (by decide) hdd rfl rfl hrm hf kk
theorem tX2_changeFactor_0 {G : gx} {b : bg} {h : ah} {Q : Option Value → ah → Prop} {x1 : Int32} {x2 : Int32} {raddend : Int32} {rexchanges : Int32} {rleadsStand : Int32} {rnumbersStand : Int32} {rcycleCount : Int32} {rcountStands : Int32} {rfac : Nat → Int32} (g9 : h 9 = (2, .inl [.ref 3, .ref 10, .int raddend, .ref 11, .ref 12, .int rexchanges, .ref 13, .int rleadsStand, .ref 14, .ref 15, .int rnumbersStand, .int rcycleCount, .int rcountStands, .ref 16])) (g10 : h 10 = (0, .inr (14, .inl rfac))) (q1 : vp_in x1 14) (q2 : vp_in x1 14) (q3 : V G mX2_changeFactor b 15 [some (.ref 9), some (.int x1), some (.int x2), some (.int (rfac x1.toNatClampNeg))] [.ref 9] (va_up h 10 (0, .inr (14, .inl (upd rfac x1.toNatClampNeg x2)))) Q) : V G mX2_changeFactor b 0 [some (.ref 9), some (.int x1), some (.int x2)] [] h Q := by
  refine V_aload_n dX2_changeFactor_0 rfl rfl ?_
  refine V_get (ci := 2) (j := 1) (C0 := RX2) (T := TX2) (N := 14) dX2_changeFactor_1 rfl g9 (by decide) (by decide) kf_X2_9 rfl ?_
  refine V_iload_n dX2_changeFactor_4 rfl rfl ?_
  refine V_iald dX2_changeFactor_5 g10 (q1) ?_
  refine V_istore_n dX2_changeFactor_6 rfl (Nat.le_of_ble_eq_true rfl) ?_
  refine V_aload_n dX2_changeFactor_7 rfl rfl ?_
  refine V_get (ci := 2) (j := 1) (C0 := RX2) (T := TX2) (N := 14) dX2_changeFactor_8 rfl g9 (by decide) (by decide) kf_X2_9 rfl ?_
  refine V_iload_n dX2_changeFactor_11 rfl rfl ?_
  refine V_iload_n dX2_changeFactor_12 rfl rfl ?_
  refine V_iast dX2_changeFactor_13 g10 (q2) ?_
  refine V_aload_n dX2_changeFactor_14 rfl rfl ?_
  exact V_sub (by exact (And.intro rfl (And.intro rfl (And.intro rfl (And.intro rfl True.intro))))) (q3)
theorem tX2_changeFactor_18 {G : gx} {b : bg} {h : ah} {Q : Option Value → ah → Prop} {x1 : Int32} {x2 : Int32} {x3 : Int32} (q1 : Q (some (.int x3)) h) : V G mX2_changeFactor b 18 [some (.ref 9), some (.int x1), some (.int x2), some (.int x3)] [] h Q := by
  refine V_iload_n dX2_changeFactor_18 rfl rfl ?_
  exact V_iret dX2_changeFactor_19 rfl (q1)
theorem cX2_changeFactor_15 {G : gx} {d mc ms cc zz d2 mc2 ms2 : Nat} {L : List (Option Value)} {S : List Value} {h : ah} {Q Q2 : Option Value → ah → Prop} {k : Nat} {fs : List Value} (hM : Ct G mX2_forgetExchanges d2 mc2 ms2 (.ref (k + 2) :: []) h Q2) (hc : h (k + 2) = (2, .inl fs)) (hdd : d2 < d ∧ d ≤ 9) (hrm : (S.map fun v => v.category).sum ≤ 8) (hf : cc + mc2 ≤ mc ∧ zz + ms2 ≤ ms) (kk : ∀ r h2, Q2 r h2 → V G mX2_changeFactor (d, mc, ms, cc + mc2, zz + ms2) 18 L (r.toList ++ S) h2 Q) : V G mX2_changeFactor (d, mc, ms, cc, zz) 15 L (.ref (k + 2) :: S) h Q := V_callV (ci := 2) (T := TX2) (N := 14) hM dX2_changeFactor_15 ⟨km_X2_50, ki_X2_forgetExchanges, ks_X2_forgetExchanges⟩ cw_X2_forgetExchanges rfl hc (by decide) hdd rfl rfl hrm hf kk
theorem tX2_changeSum_0 {G : gx} {b : bg} {h : ah} {Q : Option Value → ah → Prop} {x1 : Int32} {raddend : Int32} {rexchanges : Int32} {rleadsStand : Int32} {rnumbersStand : Int32} {rcycleCount : Int32} {rcountStands : Int32} (g9 : h 9 = (2, .inl [.ref 3, .ref 10, .int raddend, .ref 11, .ref 12, .int rexchanges, .ref 13, .int rleadsStand, .ref 14, .ref 15, .int rnumbersStand, .int rcycleCount, .int rcountStands, .ref 16])) (q1 : V G mX2_changeSum b 11 [some (.ref 9), some (.int x1), some (.int raddend)] [.ref 9] (va_up h 9 (2, .inl [.ref 3, .ref 10, .int x1, .ref 11, .ref 12, .int rexchanges, .ref 13, .int rleadsStand, .ref 14, .ref 15, .int rnumbersStand, .int rcycleCount, .int rcountStands, .ref 16])) Q) : V G mX2_changeSum b 0 [some (.ref 9), some (.int x1)] [] h Q := by
  refine V_aload_n dX2_changeSum_0 rfl rfl ?_
  refine V_get (ci := 2) (j := 2) (C0 := RX2) (T := TX2) (N := 14) dX2_changeSum_1 rfl g9 (by decide) (by decide) kf_X2_46 rfl ?_
  refine V_istore_n dX2_changeSum_4 rfl (Nat.le_of_ble_eq_true rfl) ?_
  refine V_aload_n dX2_changeSum_5 rfl rfl ?_
  refine V_iload_n dX2_changeSum_6 rfl rfl ?_
  refine V_put (ci := 2) (j := 2) (C0 := RX2) (T := TX2) (N := 14) (ty := .int) dX2_changeSum_7 rfl g9 (by decide) (by decide) kf_X2_46 rfl (by decide +kernel) rfl rfl (Nat.le_of_ble_eq_true rfl) ?_
  refine V_aload_n dX2_changeSum_10 rfl rfl ?_
  exact V_sub (by exact (And.intro rfl (And.intro rfl (And.intro rfl True.intro)))) (q1)
theorem tX2_changeSum_14 {G : gx} {b : bg} {h : ah} {Q : Option Value → ah → Prop} {x1 : Int32} {x2 : Int32} (q1 : Q (some (.int x2)) h) : V G mX2_changeSum b 14 [some (.ref 9), some (.int x1), some (.int x2)] [] h Q := by
  refine V_iload_n dX2_changeSum_14 rfl rfl ?_
  exact V_iret dX2_changeSum_15 rfl (q1)
theorem cX2_changeSum_11 {G : gx} {d mc ms cc zz d2 mc2 ms2 : Nat} {L : List (Option Value)} {S : List Value} {h : ah} {Q Q2 : Option Value → ah → Prop} {k : Nat} {fs : List Value} (hM : Ct G mX2_forgetExchanges d2 mc2 ms2 (.ref (k + 2) :: []) h Q2) (hc : h (k + 2) = (2, .inl fs)) (hdd : d2 < d ∧ d ≤ 9) (hrm : (S.map fun v => v.category).sum ≤ 8) (hf : cc + mc2 ≤ mc ∧ zz + ms2 ≤ ms) (kk : ∀ r h2, Q2 r h2 → V G mX2_changeSum (d, mc, ms, cc + mc2, zz + ms2) 14 L (r.toList ++ S) h2 Q) : V G mX2_changeSum (d, mc, ms, cc, zz) 11 L (.ref (k + 2) :: S) h Q := V_callV (ci := 2) (T := TX2) (N := 14) hM dX2_changeSum_11 ⟨km_X2_50, ki_X2_forgetExchanges, ks_X2_forgetExchanges⟩ cw_X2_forgetExchanges rfl hc (by decide) hdd rfl rfl hrm hf kk
theorem tX2_forgetExchanges_0 {G : gx} {b : bg} {h : ah} {Q : Option Value → ah → Prop} {raddend : Int32} {rexchanges : Int32} {rleadsStand : Int32} {rnumbersStand : Int32} {rcycleCount : Int32} {rcountStands : Int32} (g9 : h 9 = (2, .inl [.ref 3, .ref 10, .int raddend, .ref 11, .ref 12, .int rexchanges, .ref 13, .int rleadsStand, .ref 14, .ref 15, .int rnumbersStand, .int rcycleCount, .int rcountStands, .ref 16])) (q1 : Q none (va_up (va_up (va_up (va_up h 9 (2, .inl [.ref 3, .ref 10, .int raddend, .ref 11, .ref 12, .int (0 : Int32), .ref 13, .int rleadsStand, .ref 14, .ref 15, .int rnumbersStand, .int rcycleCount, .int rcountStands, .ref 16])) 9 (2, .inl [.ref 3, .ref 10, .int raddend, .ref 11, .ref 12, .int (0 : Int32), .ref 13, .int (0 : Int32), .ref 14, .ref 15, .int rnumbersStand, .int rcycleCount, .int rcountStands, .ref 16])) 9 (2, .inl [.ref 3, .ref 10, .int raddend, .ref 11, .ref 12, .int (0 : Int32), .ref 13, .int (0 : Int32), .ref 14, .ref 15, .int (0 : Int32), .int rcycleCount, .int rcountStands, .ref 16])) 9 (2, .inl [.ref 3, .ref 10, .int raddend, .ref 11, .ref 12, .int (0 : Int32), .ref 13, .int (0 : Int32), .ref 14, .ref 15, .int (0 : Int32), .int rcycleCount, .int (0 : Int32), .ref 16]))) : V G mX2_forgetExchanges b 0 [some (.ref 9)] [] h Q := by
  refine V_aload_n dX2_forgetExchanges_0 rfl rfl ?_
  refine V_iconst dX2_forgetExchanges_1 ic_0 ?_
  refine V_put (ci := 2) (j := 5) (C0 := RX2) (T := TX2) (N := 14) (ty := .int) dX2_forgetExchanges_2 rfl g9 (by decide) (by decide) kf_X2_53 rfl (by decide +kernel) rfl rfl (Nat.le_of_ble_eq_true rfl) ?_
  refine V_aload_n dX2_forgetExchanges_5 rfl rfl ?_
  refine V_iconst dX2_forgetExchanges_6 ic_0 ?_
  refine V_put (ci := 2) (j := 7) (C0 := RX2) (T := TX2) (N := 14) (ty := .boolean) dX2_forgetExchanges_7 rfl rfl (by decide) (by decide) kf_X2_56 rfl (by decide +kernel) rfl rfl (Nat.le_of_ble_eq_true rfl) ?_
  refine V_aload_n dX2_forgetExchanges_10 rfl rfl ?_
  refine V_iconst dX2_forgetExchanges_11 ic_0 ?_
  refine V_put (ci := 2) (j := 10) (C0 := RX2) (T := TX2) (N := 14) (ty := .boolean) dX2_forgetExchanges_12 rfl rfl (by decide) (by decide) kf_X2_60 rfl (by decide +kernel) rfl rfl (Nat.le_of_ble_eq_true rfl) ?_
  refine V_aload_n dX2_forgetExchanges_15 rfl rfl ?_
  refine V_iconst dX2_forgetExchanges_16 ic_0 ?_
  refine V_put (ci := 2) (j := 12) (C0 := RX2) (T := TX2) (N := 14) (ty := .boolean) dX2_forgetExchanges_17 rfl rfl (by decide) (by decide) kf_X2_63 rfl (by decide +kernel) rfl rfl (Nat.le_of_ble_eq_true rfl) ?_
  exact V_vret dX2_forgetExchanges_20 rfl (q1)
theorem tX2_isRight_0 {G : gx} {b : bg} {h : ah} {Q : Option Value → ah → Prop} (q1 : V G mX2_isRight b 2 [some (.ref 9), some (.int (2 : Int32))] [] h Q) : V G mX2_isRight b 0 [some (.ref 9)] [] h Q := by
  refine V_iconst dX2_isRight_0 ic_2 ?_
  refine V_istore_n dX2_isRight_1 rfl (Nat.le_of_ble_eq_true rfl) ?_
  exact V_sub (by exact (And.intro rfl (And.intro rfl True.intro))) (q1)
theorem tX2_isRight_2 {G : gx} {b : bg} {h : ah} {Q : Option Value → ah → Prop} {x1 : Int32} {raddend : Int32} {rexchanges : Int32} {rleadsStand : Int32} {rnumbersStand : Int32} {rcycleCount : Int32} {rcountStands : Int32} {wletters : Int32} {wlength : Int32} {wall : Int32} {whigh : Int32} {rfac : Nat → Int32} (g9 : h 9 = (2, .inl [.ref 3, .ref 10, .int raddend, .ref 11, .ref 12, .int rexchanges, .ref 13, .int rleadsStand, .ref 14, .ref 15, .int rnumbersStand, .int rcycleCount, .int rcountStands, .ref 16])) (g3 : h 3 = (6, .inl [.ref 4, .int wletters, .int wlength, .int wall, .int whigh])) (g10 : h 10 = (0, .inr (14, .inl rfac))) (q1 : (wletters < x1) → Q (some (.int (1 : Int32))) h) (q2 : (¬ wletters < x1) → ¬ x1 = 0) (q3 : (¬ wletters < x1) → (¬ (wletters - wletters / x1 * x1) = (0 : Int32)) → V G mX2_isRight b 2 [some (.ref 9), some (.int (x1 + (1 : Int32)))] [] h Q) (q4 : (¬ wletters < x1) → ((wletters - wletters / x1 * x1) = (0 : Int32)) → vp_in (0 : Int32) 14) (q5 : (¬ wletters < x1) → ((wletters - wletters / x1 * x1) = (0 : Int32)) → ¬ x1 = 0) (q6 : (¬ wletters < x1) → ((wletters - wletters / x1 * x1) = (0 : Int32)) → (¬ ((rfac (0 : Int32).toNatClampNeg) - (rfac (0 : Int32).toNatClampNeg) / x1 * x1) = (0 : Int32)) → V G mX2_isRight b 2 [some (.ref 9), some (.int (x1 + (1 : Int32)))] [] h Q) (q7 : (¬ wletters < x1) → ((wletters - wletters / x1 * x1) = (0 : Int32)) → (((rfac (0 : Int32).toNatClampNeg) - (rfac (0 : Int32).toNatClampNeg) / x1 * x1) = (0 : Int32)) → Q (some (.int (0 : Int32))) h) : V G mX2_isRight b 2 [some (.ref 9), some (.int x1)] [] h Q := by
  refine V_iload_n dX2_isRight_2 rfl rfl ?_
  refine V_aload_n dX2_isRight_3 rfl rfl ?_
  refine V_get (ci := 2) (j := 0) (C0 := RX2) (T := TX2) (N := 14) dX2_isRight_4 rfl g9 (by decide) (by decide) kf_X2_33 rfl ?_
  refine V_getN (ci := 6) (j := 1) (C0 := RX6) (T := TX6) (N := 5) dX2_isRight_7 rfl g3 (by decide) (by decide) kf_X2_66 rfl ?_
  refine V_icmp_gt (t := 44) dX2_isRight_10 (by decide) (fun z1 => ?_) (fun z1 => ?_)
  ·
    refine V_iconst dX2_isRight_44 ic_1 ?_
    exact V_zret dX2_isRight_45 rfl rfl (q1 z1)
  ·
    refine V_aload_n dX2_isRight_13 rfl rfl ?_
    refine V_get (ci := 2) (j := 0) (C0 := RX2) (T := TX2) (N := 14) dX2_isRight_14 rfl g9 (by decide) (by decide) kf_X2_33 rfl ?_
    refine V_getN (ci := 6) (j := 1) (C0 := RX6) (T := TX6) (N := 5) dX2_isRight_17 rfl g3 (by decide) (by decide) kf_X2_66 rfl ?_
    refine V_iload_n dX2_isRight_20 rfl rfl ?_
    refine V_irem dX2_isRight_21 (q2 z1) ?_
    refine V_if_ne (t := 38) dX2_isRight_22 (by decide) (fun z2 => ?_) (fun z2 => ?_)
    ·
      refine V_inc dX2_isRight_38 ic_1 rfl (Nat.le_of_ble_eq_true rfl) ?_
      refine V_goto (t := 2) dX2_isRight_41 (by decide) ?_
      exact V_sub (by exact (And.intro rfl (And.intro rfl True.intro))) (q3 z1 z2)
    ·
      refine V_aload_n dX2_isRight_25 rfl rfl ?_
      refine V_get (ci := 2) (j := 1) (C0 := RX2) (T := TX2) (N := 14) dX2_isRight_26 rfl g9 (by decide) (by decide) kf_X2_9 rfl ?_
      refine V_iconst dX2_isRight_29 ic_0 ?_
      refine V_iald dX2_isRight_30 g10 (q4 z1 z2) ?_
      refine V_iload_n dX2_isRight_31 rfl rfl ?_
      refine V_irem dX2_isRight_32 (q5 z1 z2) ?_
      refine V_if_ne (t := 38) dX2_isRight_33 (by decide) (fun z3 => ?_) (fun z3 => ?_)
      ·
        refine V_inc dX2_isRight_38 ic_1 rfl (Nat.le_of_ble_eq_true rfl) ?_
        refine V_goto (t := 2) dX2_isRight_41 (by decide) ?_
        exact V_sub (by exact (And.intro rfl (And.intro rfl True.intro))) (q6 z1 z2 z3)
      ·
        refine V_iconst dX2_isRight_36 ic_0 ?_
        exact V_zret dX2_isRight_37 rfl rfl (q7 z1 z2 z3)
theorem tX2_isFull_0 {G : gx} {b : bg} {h : ah} {Q : Option Value → ah → Prop} {raddend : Int32} {rexchanges : Int32} {rleadsStand : Int32} {rnumbersStand : Int32} {rcycleCount : Int32} {rcountStands : Int32} (g9 : h 9 = (2, .inl [.ref 3, .ref 10, .int raddend, .ref 11, .ref 12, .int rexchanges, .ref 13, .int rleadsStand, .ref 14, .ref 15, .int rnumbersStand, .int rcycleCount, .int rcountStands, .ref 16])) (q1 : (rexchanges < (400 : Int32)) → Q (some (.int (0 : Int32))) h) (q2 : (¬ rexchanges < (400 : Int32)) → Q (some (.int (1 : Int32))) h) : V G mX2_isFull b 0 [some (.ref 9)] [] h Q := by
  refine V_aload_n dX2_isFull_0 rfl rfl ?_
  refine V_get (ci := 2) (j := 5) (C0 := RX2) (T := TX2) (N := 14) dX2_isFull_1 rfl g9 (by decide) (by decide) kf_X2_53 rfl ?_
  refine V_sipush dX2_isFull_4 sp_400 ?_
  refine V_icmp_lt (t := 14) dX2_isFull_7 (by decide) (fun z1 => ?_) (fun z1 => ?_)
  ·
    refine V_iconst dX2_isFull_14 ic_0 ?_
    exact V_zret dX2_isFull_15 rfl rfl (q1 z1)
  ·
    refine V_iconst dX2_isFull_10 ic_1 ?_
    refine V_goto (t := 15) dX2_isFull_11 (by decide) ?_
    exact V_zret dX2_isFull_15 rfl rfl (q2 z1)
theorem tX2_leadOf_0 {G : gx} {b : bg} {h : ah} {Q : Option Value → ah → Prop} {x1 : Int32} (q1 : V G mX2_leadOf b 1 [some (.ref 9), some (.int x1)] [.ref 9] h Q) : V G mX2_leadOf b 0 [some (.ref 9), some (.int x1)] [] h Q := by
  refine V_aload_n dX2_leadOf_0 rfl rfl ?_
  exact V_sub (by exact (And.intro rfl (And.intro rfl True.intro))) (q1)
theorem tX2_leadOf_4 {G : gx} {b : bg} {h : ah} {Q : Option Value → ah → Prop} {x1 : Int32} {rlead : Nat → Int32} (g13 : h 13 = (0, .inr (20000, .inl rlead))) (q1 : vp_in x1 20000) (q2 : Q (some (.int (rlead x1.toNatClampNeg))) h) : V G mX2_leadOf b 4 [some (.ref 9), some (.int x1)] [.ref 13] h Q := by
  refine V_iload_n dX2_leadOf_4 rfl rfl ?_
  refine V_iald dX2_leadOf_5 g13 (q1) ?_
  exact V_iret dX2_leadOf_6 rfl (q2)
theorem cX2_leadOf_1 {G : gx} {d mc ms cc zz d2 mc2 ms2 : Nat} {L : List (Option Value)} {S : List Value} {h : ah} {Q Q2 : Option Value → ah → Prop} {k : Nat} {fs : List Value} (hM : Ct G mX2_leads d2 mc2 ms2 (.ref (k + 2) :: []) h Q2) (hc : h (k + 2) = (2, .inl fs)) (hdd : d2 < d ∧ d ≤ 9) (hrm : (S.map fun v => v.category).sum ≤ 8) (hf : cc + mc2 ≤ mc ∧ zz + ms2 ≤ ms) (kk : ∀ r h2, Q2 r h2 → V G mX2_leadOf (d, mc, ms, cc + mc2, zz + ms2) 4 L (r.toList ++ S) h2 Q) : V G mX2_leadOf (d, mc, ms, cc, zz) 1 L (.ref (k + 2) :: S) h Q := V_callV (ci := 2) (T := TX2) (N := 14) hM dX2_leadOf_1 ⟨km_X2_71, ki_X2_leads, ks_X2_leads⟩ cw_X2_leads rfl hc (by decide) hdd rfl rfl hrm hf kk
theorem tX2_leads_0 {G : gx} {b : bg} {h : ah} {Q : Option Value → ah → Prop} {raddend : Int32} {rexchanges : Int32} {rleadsStand : Int32} {rnumbersStand : Int32} {rcycleCount : Int32} {rcountStands : Int32} (g9 : h 9 = (2, .inl [.ref 3, .ref 10, .int raddend, .ref 11, .ref 12, .int rexchanges, .ref 13, .int rleadsStand, .ref 14, .ref 15, .int rnumbersStand, .int rcycleCount, .int rcountStands, .ref 16])) (q1 : (¬ rleadsStand = (0 : Int32)) → Q (some (.ref 13)) h) (q2 : (rleadsStand = (0 : Int32)) → V G mX2_leads b 8 [some (.ref 9)] [.ref 9] h Q) : V G mX2_leads b 0 [some (.ref 9)] [] h Q := by
  refine V_aload_n dX2_leads_0 rfl rfl ?_
  refine V_get (ci := 2) (j := 7) (C0 := RX2) (T := TX2) (N := 14) dX2_leads_1 rfl g9 (by decide) (by decide) kf_X2_56 rfl ?_
  refine V_if_ne (t := 61) dX2_leads_4 (by decide) (fun z1 => ?_) (fun z1 => ?_)
  ·
    refine V_aload_n dX2_leads_61 rfl rfl ?_
    refine V_get (ci := 2) (j := 6) (C0 := RX2) (T := TX2) (N := 14) dX2_leads_62 rfl g9 (by decide) (by decide) kf_X2_21 rfl ?_
    exact V_aret dX2_leads_65 rfl (q1 z1)
  ·
    refine V_aload_n dX2_leads_7 rfl rfl ?_
    exact V_sub (by exact (And.intro rfl True.intro)) (q2 z1)
theorem tX2_leads_13 {G : gx} {b : bg} {h : ah} {Q : Option Value → ah → Prop} {x1 : Int32} {raddend : Int32} {rexchanges : Int32} {rleadsStand : Int32} {rnumbersStand : Int32} {rcycleCount : Int32} {rcountStands : Int32} {wletters : Int32} {wlength : Int32} {wall : Int32} {whigh : Int32} {rlead : Nat → Int32} (g9 : h 9 = (2, .inl [.ref 3, .ref 10, .int raddend, .ref 11, .ref 12, .int rexchanges, .ref 13, .int rleadsStand, .ref 14, .ref 15, .int rnumbersStand, .int rcycleCount, .int rcountStands, .ref 16])) (g3 : h 3 = (6, .inl [.ref 4, .int wletters, .int wlength, .int wall, .int whigh])) (g13 : h 13 = (0, .inr (20000, .inl rlead))) (q1 : (wall ≤ x1) → Q (some (.ref 13)) (va_up h 9 (2, .inl [.ref 3, .ref 10, .int raddend, .ref 11, .ref 12, .int rexchanges, .ref 13, .int (1 : Int32), .ref 14, .ref 15, .int rnumbersStand, .int rcycleCount, .int rcountStands, .ref 16]))) (q2 : (¬ wall ≤ x1) → vp_in x1 20000) (q3 : (¬ wall ≤ x1) → ¬ whigh = 0) (q4 : (¬ wall ≤ x1) → vp_in x1 20000) (q5 : (¬ wall ≤ x1) → V G mX2_leads b 13 [some (.ref 9), some (.int (x1 + (1 : Int32)))] [] (va_up h 13 (0, .inr (20000, .inl (upd rlead x1.toNatClampNeg ((rlead x1.toNatClampNeg) + ((x1 - x1 / whigh * whigh) * wletters)))))) Q) : V G mX2_leads b 13 [some (.ref 9), some (.int x1)] [] h Q := by
  refine V_iload_n dX2_leads_13 rfl rfl ?_
  refine V_aload_n dX2_leads_14 rfl rfl ?_
  refine V_get (ci := 2) (j := 0) (C0 := RX2) (T := TX2) (N := 14) dX2_leads_15 rfl g9 (by decide) (by decide) kf_X2_33 rfl ?_
  refine V_getN (ci := 6) (j := 3) (C0 := RX6) (T := TX6) (N := 5) dX2_leads_18 rfl g3 (by decide) (by decide) kf_X2_78 rfl ?_
  refine V_icmp_ge (t := 56) dX2_leads_21 (by decide) (fun z1 => ?_) (fun z1 => ?_)
  ·
    refine V_aload_n dX2_leads_56 rfl rfl ?_
    refine V_iconst dX2_leads_57 ic_1 ?_
    refine V_put (ci := 2) (j := 7) (C0 := RX2) (T := TX2) (N := 14) (ty := .boolean) dX2_leads_58 rfl g9 (by decide) (by decide) kf_X2_56 rfl (by decide +kernel) rfl rfl (Nat.le_of_ble_eq_true rfl) ?_
    refine V_aload_n dX2_leads_61 rfl rfl ?_
    refine V_get (ci := 2) (j := 6) (C0 := RX2) (T := TX2) (N := 14) dX2_leads_62 rfl rfl (by decide) (by decide) kf_X2_21 rfl ?_
    exact V_aret dX2_leads_65 rfl (q1 z1)
  ·
    refine V_aload_n dX2_leads_24 rfl rfl ?_
    refine V_get (ci := 2) (j := 6) (C0 := RX2) (T := TX2) (N := 14) dX2_leads_25 rfl g9 (by decide) (by decide) kf_X2_21 rfl ?_
    refine V_iload_n dX2_leads_28 rfl rfl ?_
    refine V_dup2 dX2_leads_29 rfl rfl ?_
    refine V_iald dX2_leads_30 g13 (q2 z1) ?_
    refine V_iload_n dX2_leads_31 rfl rfl ?_
    refine V_aload_n dX2_leads_32 rfl rfl ?_
    refine V_get (ci := 2) (j := 0) (C0 := RX2) (T := TX2) (N := 14) dX2_leads_33 rfl g9 (by decide) (by decide) kf_X2_33 rfl ?_
    refine V_getN (ci := 6) (j := 4) (C0 := RX6) (T := TX6) (N := 5) dX2_leads_36 rfl g3 (by decide) (by decide) kf_X2_81 rfl ?_
    refine V_irem dX2_leads_39 (q3 z1) ?_
    refine V_aload_n dX2_leads_40 rfl rfl ?_
    refine V_get (ci := 2) (j := 0) (C0 := RX2) (T := TX2) (N := 14) dX2_leads_41 rfl g9 (by decide) (by decide) kf_X2_33 rfl ?_
    refine V_getN (ci := 6) (j := 1) (C0 := RX6) (T := TX6) (N := 5) dX2_leads_44 rfl g3 (by decide) (by decide) kf_X2_66 rfl ?_
    refine V_imul dX2_leads_47 ?_
    refine V_iadd dX2_leads_48 ?_
    refine V_iast dX2_leads_49 g13 (q4 z1) ?_
    refine V_inc dX2_leads_50 ic_1 rfl (Nat.le_of_ble_eq_true rfl) ?_
    refine V_goto (t := 13) dX2_leads_53 (by decide) ?_
    exact V_sub (by exact (And.intro rfl (And.intro rfl True.intro))) (q5 z1)
theorem tX2_leads_11 {G : gx} {b : bg} {h : ah} {Q : Option Value → ah → Prop} (q1 : V G mX2_leads b 13 [some (.ref 9), some (.int (0 : Int32))] [] h Q) : V G mX2_leads b 11 [some (.ref 9)] [] h Q := by
  refine V_iconst dX2_leads_11 ic_0 ?_
  refine V_istore_n dX2_leads_12 rfl (Nat.le_of_ble_eq_true rfl) ?_
  exact V_sub (by exact (And.intro rfl (And.intro rfl True.intro))) (q1)
theorem cX2_leads_8 {G : gx} {d mc ms cc zz d2 mc2 ms2 : Nat} {L : List (Option Value)} {S : List Value} {h : ah} {Q Q2 : Option Value → ah → Prop} {k : Nat} {fs : List Value} (hM : Ct G mX2_fillComing d2 mc2 ms2 (.ref (k + 2) :: []) h Q2) (hc : h (k + 2) = (2, .inl fs)) (hdd : d2 < d ∧ d ≤ 9) (hrm : (S.map fun v => v.category).sum ≤ 8) (hf : cc + mc2 ≤ mc ∧ zz + ms2 ≤ ms) (kk : ∀ r h2, Q2 r h2 → V G mX2_leads (d, mc, ms, cc + mc2, zz + ms2) 11 L (r.toList ++ S) h2 Q) : V G mX2_leads (d, mc, ms, cc, zz) 8 L (.ref (k + 2) :: S) h Q := V_callV (ci := 2) (T := TX2) (N := 14) hM dX2_leads_8 ⟨km_X2_75, ki_X2_fillComing, ks_X2_fillComing⟩ cw_X2_fillComing rfl hc (by decide) hdd rfl rfl hrm hf kk
theorem tX2_fillComing_0 {G : gx} {b : bg} {h : ah} {Q : Option Value → ah → Prop} {raddend : Int32} {rexchanges : Int32} {rleadsStand : Int32} {rnumbersStand : Int32} {rcycleCount : Int32} {rcountStands : Int32} {rlead : Nat → Int32} {wletters : Int32} {wlength : Int32} {wall : Int32} {whigh : Int32} (g9 : h 9 = (2, .inl [.ref 3, .ref 10, .int raddend, .ref 11, .ref 12, .int rexchanges, .ref 13, .int rleadsStand, .ref 14, .ref 15, .int rnumbersStand, .int rcycleCount, .int rcountStands, .ref 16])) (g13 : h 13 = (0, .inr (20000, .inl rlead))) (g3 : h 3 = (6, .inl [.ref 4, .int wletters, .int wlength, .int wall, .int whigh])) (q1 : vp_in (0 : Int32) 20000) (q2 : V G mX2_fillComing b 20 [some (.ref 9), some (.int (wlength - (1 : Int32)))] [] (va_up h 13 (0, .inr (20000, .inl (upd rlead (0 : Int32).toNatClampNeg raddend)))) Q) : V G mX2_fillComing b 0 [some (.ref 9)] [] h Q := by
  refine V_aload_n dX2_fillComing_0 rfl rfl ?_
  refine V_get (ci := 2) (j := 6) (C0 := RX2) (T := TX2) (N := 14) dX2_fillComing_1 rfl g9 (by decide) (by decide) kf_X2_21 rfl ?_
  refine V_iconst dX2_fillComing_4 ic_0 ?_
  refine V_aload_n dX2_fillComing_5 rfl rfl ?_
  refine V_get (ci := 2) (j := 2) (C0 := RX2) (T := TX2) (N := 14) dX2_fillComing_6 rfl g9 (by decide) (by decide) kf_X2_46 rfl ?_
  refine V_iast dX2_fillComing_9 g13 (q1) ?_
  refine V_aload_n dX2_fillComing_10 rfl rfl ?_
  refine V_get (ci := 2) (j := 0) (C0 := RX2) (T := TX2) (N := 14) dX2_fillComing_11 rfl g9 (by decide) (by decide) kf_X2_33 rfl ?_
  refine V_getN (ci := 6) (j := 2) (C0 := RX6) (T := TX6) (N := 5) dX2_fillComing_14 rfl g3 (by decide) (by decide) kf_X2_84 rfl ?_
  refine V_iconst dX2_fillComing_17 ic_1 ?_
  refine V_isub dX2_fillComing_18 ?_
  refine V_istore_n dX2_fillComing_19 rfl (Nat.le_of_ble_eq_true rfl) ?_
  exact V_sub (by exact (And.intro rfl (And.intro rfl True.intro))) (q2)
theorem tX2_fillComing_20 {G : gx} {b : bg} {h : ah} {Q : Option Value → ah → Prop} {x1 : Int32} {raddend : Int32} {rexchanges : Int32} {rleadsStand : Int32} {rnumbersStand : Int32} {rcycleCount : Int32} {rcountStands : Int32} {wletters : Int32} {wlength : Int32} {wall : Int32} {whigh : Int32} {wpower : Nat → Int32} (g9 : h 9 = (2, .inl [.ref 3, .ref 10, .int raddend, .ref 11, .ref 12, .int rexchanges, .ref 13, .int rleadsStand, .ref 14, .ref 15, .int rnumbersStand, .int rcycleCount, .int rcountStands, .ref 16])) (g3 : h 3 = (6, .inl [.ref 4, .int wletters, .int wlength, .int wall, .int whigh])) (g4 : h 4 = (0, .inr (15, .inl wpower))) (q1 : (x1 < (0 : Int32)) → Q none h) (q2 : (¬ x1 < (0 : Int32)) → vp_in ((wlength - (1 : Int32)) - x1) 15) (q3 : (¬ x1 < (0 : Int32)) → V G mX2_fillComing b 46 [some (.ref 9), some (.int x1), some (.int (wpower ((wlength - (1 : Int32)) - x1).toNatClampNeg)), some (.int (1 : Int32))] [] h Q) : V G mX2_fillComing b 20 [some (.ref 9), some (.int x1)] [] h Q := by
  refine V_iload_n dX2_fillComing_20 rfl rfl ?_
  refine V_if_lt (t := 123) dX2_fillComing_21 (by decide) (fun z1 => ?_) (fun z1 => ?_)
  ·
    exact V_vret dX2_fillComing_123 rfl (q1 z1)
  ·
    refine V_aload_n dX2_fillComing_24 rfl rfl ?_
    refine V_get (ci := 2) (j := 0) (C0 := RX2) (T := TX2) (N := 14) dX2_fillComing_25 rfl g9 (by decide) (by decide) kf_X2_33 rfl ?_
    refine V_getN (ci := 6) (j := 0) (C0 := RX6) (T := TX6) (N := 5) dX2_fillComing_28 rfl g3 (by decide) (by decide) kf_X2_87 rfl ?_
    refine V_aload_n dX2_fillComing_31 rfl rfl ?_
    refine V_get (ci := 2) (j := 0) (C0 := RX2) (T := TX2) (N := 14) dX2_fillComing_32 rfl g9 (by decide) (by decide) kf_X2_33 rfl ?_
    refine V_getN (ci := 6) (j := 2) (C0 := RX6) (T := TX6) (N := 5) dX2_fillComing_35 rfl g3 (by decide) (by decide) kf_X2_84 rfl ?_
    refine V_iconst dX2_fillComing_38 ic_1 ?_
    refine V_isub dX2_fillComing_39 ?_
    refine V_iload_n dX2_fillComing_40 rfl rfl ?_
    refine V_isub dX2_fillComing_41 ?_
    refine V_iald dX2_fillComing_42 g4 (q2 z1) ?_
    refine V_istore_n dX2_fillComing_43 rfl (Nat.le_of_ble_eq_true rfl) ?_
    refine V_iconst dX2_fillComing_44 ic_1 ?_
    refine V_istore_n dX2_fillComing_45 rfl (Nat.le_of_ble_eq_true rfl) ?_
    exact V_sub (by exact (And.intro rfl (And.intro rfl (And.intro rfl (And.intro rfl True.intro))))) (q3 z1)
theorem tX2_fillComing_46 {G : gx} {b : bg} {h : ah} {Q : Option Value → ah → Prop} {x1 : Int32} {x2 : Int32} {x3 : Int32} {raddend : Int32} {rexchanges : Int32} {rleadsStand : Int32} {rnumbersStand : Int32} {rcycleCount : Int32} {rcountStands : Int32} {wletters : Int32} {wlength : Int32} {wall : Int32} {whigh : Int32} {rfac : Nat → Int32} (g9 : h 9 = (2, .inl [.ref 3, .ref 10, .int raddend, .ref 11, .ref 12, .int rexchanges, .ref 13, .int rleadsStand, .ref 14, .ref 15, .int rnumbersStand, .int rcycleCount, .int rcountStands, .ref 16])) (g3 : h 3 = (6, .inl [.ref 4, .int wletters, .int wlength, .int wall, .int whigh])) (g10 : h 10 = (0, .inr (14, .inl rfac))) (q1 : (wletters ≤ x3) → V G mX2_fillComing b 20 [some (.ref 9), some (.int (x1 + (-1 : Int32)))] [] h Q) (q2 : (¬ wletters ≤ x3) → vp_in x1 14) (q3 : (¬ wletters ≤ x3) → V G mX2_fillComing b 70 [some (.ref 9), some (.int x1), some (.int x2), some (.int x3), some (.int ((rfac x1.toNatClampNeg) * x3)), some (.int (0 : Int32))] [] h Q) : V G mX2_fillComing b 46 [some (.ref 9), some (.int x1), some (.int x2), some (.int x3)] [] h Q := by
  refine V_iload_n dX2_fillComing_46 rfl rfl ?_
  refine V_aload_n dX2_fillComing_47 rfl rfl ?_
  refine V_get (ci := 2) (j := 0) (C0 := RX2) (T := TX2) (N := 14) dX2_fillComing_48 rfl g9 (by decide) (by decide) kf_X2_33 rfl ?_
  refine V_getN (ci := 6) (j := 1) (C0 := RX6) (T := TX6) (N := 5) dX2_fillComing_51 rfl g3 (by decide) (by decide) kf_X2_66 rfl ?_
  refine V_icmp_ge (t := 117) dX2_fillComing_54 (by decide) (fun z1 => ?_) (fun z1 => ?_)
  ·
    refine V_inc dX2_fillComing_117 ic_m1 rfl (Nat.le_of_ble_eq_true rfl) ?_
    refine V_goto (t := 20) dX2_fillComing_120 (by decide) ?_
    exact V_sub (by exact (And.intro rfl (And.intro rfl True.intro))) (q1 z1)
  ·
    refine V_aload_n dX2_fillComing_57 rfl rfl ?_
    refine V_get (ci := 2) (j := 1) (C0 := RX2) (T := TX2) (N := 14) dX2_fillComing_58 rfl g9 (by decide) (by decide) kf_X2_9 rfl ?_
    refine V_iload_n dX2_fillComing_61 rfl rfl ?_
    refine V_iald dX2_fillComing_62 g10 (q2 z1) ?_
    refine V_iload_n dX2_fillComing_63 rfl rfl ?_
    refine V_imul dX2_fillComing_64 ?_
    refine V_istore dX2_fillComing_65 (Nat.le_of_ble_eq_true rfl) ?_
    refine V_iconst dX2_fillComing_67 ic_0 ?_
    refine V_istore dX2_fillComing_68 (Nat.le_of_ble_eq_true rfl) ?_
    exact V_sub (by exact (And.intro rfl (And.intro rfl (And.intro rfl (And.intro rfl (And.intro rfl (And.intro rfl True.intro))))))) (q3 z1)
theorem tX2_fillComing_70 {G : gx} {b : bg} {h : ah} {Q : Option Value → ah → Prop} {x1 : Int32} {x2 : Int32} {x3 : Int32} {x4 : Int32} {x5 : Int32} {raddend : Int32} {rexchanges : Int32} {rleadsStand : Int32} {rnumbersStand : Int32} {rcycleCount : Int32} {rcountStands : Int32} {rlead : Nat → Int32} {wletters : Int32} {wlength : Int32} {wall : Int32} {whigh : Int32} (g9 : h 9 = (2, .inl [.ref 3, .ref 10, .int raddend, .ref 11, .ref 12, .int rexchanges, .ref 13, .int rleadsStand, .ref 14, .ref 15, .int rnumbersStand, .int rcycleCount, .int rcountStands, .ref 16])) (g13 : h 13 = (0, .inr (20000, .inl rlead))) (g3 : h 3 = (6, .inl [.ref 4, .int wletters, .int wlength, .int wall, .int whigh])) (q1 : (x2 ≤ x5) → V G mX2_fillComing b 46 [some (.ref 9), some (.int x1), some (.int x2), some (.int (x3 + (1 : Int32)))] [] h Q) (q2 : (¬ x2 ≤ x5) → vp_in x5 20000) (q3 : (¬ x2 ≤ x5) → ¬ wletters = 0) (q4 : (¬ x2 ≤ x5) → vp_in ((x3 * x2) + x5) 20000) (q5 : (¬ x2 ≤ x5) → V G mX2_fillComing b 70 [some (.ref 9), some (.int x1), some (.int x2), some (.int x3), some (.int x4), some (.int (x5 + (1 : Int32)))] [] (va_up h 13 (0, .inr (20000, .inl (upd rlead ((x3 * x2) + x5).toNatClampNeg (((rlead x5.toNatClampNeg) + x4) - ((rlead x5.toNatClampNeg) + x4) / wletters * wletters))))) Q) : V G mX2_fillComing b 70 [some (.ref 9), some (.int x1), some (.int x2), some (.int x3), some (.int x4), some (.int x5)] [] h Q := by
  refine V_iload dX2_fillComing_70 rfl ?_
  refine V_iload_n dX2_fillComing_72 rfl rfl ?_
  refine V_icmp_ge (t := 111) dX2_fillComing_73 (by decide) (fun z1 => ?_) (fun z1 => ?_)
  ·
    refine V_inc dX2_fillComing_111 ic_1 rfl (Nat.le_of_ble_eq_true rfl) ?_
    refine V_goto (t := 46) dX2_fillComing_114 (by decide) ?_
    exact V_sub (by exact (And.intro rfl (And.intro rfl (And.intro rfl (And.intro rfl True.intro))))) (q1 z1)
  ·
    refine V_aload_n dX2_fillComing_76 rfl rfl ?_
    refine V_get (ci := 2) (j := 6) (C0 := RX2) (T := TX2) (N := 14) dX2_fillComing_77 rfl g9 (by decide) (by decide) kf_X2_21 rfl ?_
    refine V_iload_n dX2_fillComing_80 rfl rfl ?_
    refine V_iload_n dX2_fillComing_81 rfl rfl ?_
    refine V_imul dX2_fillComing_82 ?_
    refine V_iload dX2_fillComing_83 rfl ?_
    refine V_iadd dX2_fillComing_85 ?_
    refine V_aload_n dX2_fillComing_86 rfl rfl ?_
    refine V_get (ci := 2) (j := 6) (C0 := RX2) (T := TX2) (N := 14) dX2_fillComing_87 rfl g9 (by decide) (by decide) kf_X2_21 rfl ?_
    refine V_iload dX2_fillComing_90 rfl ?_
    refine V_iald dX2_fillComing_92 g13 (q2 z1) ?_
    refine V_iload dX2_fillComing_93 rfl ?_
    refine V_iadd dX2_fillComing_95 ?_
    refine V_aload_n dX2_fillComing_96 rfl rfl ?_
    refine V_get (ci := 2) (j := 0) (C0 := RX2) (T := TX2) (N := 14) dX2_fillComing_97 rfl g9 (by decide) (by decide) kf_X2_33 rfl ?_
    refine V_getN (ci := 6) (j := 1) (C0 := RX6) (T := TX6) (N := 5) dX2_fillComing_100 rfl g3 (by decide) (by decide) kf_X2_66 rfl ?_
    refine V_irem dX2_fillComing_103 (q3 z1) ?_
    refine V_iast dX2_fillComing_104 g13 (q4 z1) ?_
    refine V_inc dX2_fillComing_105 ic_1 rfl (Nat.le_of_ble_eq_true rfl) ?_
    refine V_goto (t := 70) dX2_fillComing_108 (by decide) ?_
    exact V_sub (by exact (And.intro rfl (And.intro rfl (And.intro rfl (And.intro rfl (And.intro rfl (And.intro rfl True.intro))))))) (q5 z1)
theorem tX2_numberCycles_0 {G : gx} {b : bg} {h : ah} {Q : Option Value → ah → Prop} {raddend : Int32} {rexchanges : Int32} {rleadsStand : Int32} {rnumbersStand : Int32} {rcycleCount : Int32} {rcountStands : Int32} (g9 : h 9 = (2, .inl [.ref 3, .ref 10, .int raddend, .ref 11, .ref 12, .int rexchanges, .ref 13, .int rleadsStand, .ref 14, .ref 15, .int rnumbersStand, .int rcycleCount, .int rcountStands, .ref 16])) (q1 : (rnumbersStand = (0 : Int32)) → V G mX2_numberCycles b 9 [some (.ref 9)] [.ref 9] h Q) (q2 : (¬ rnumbersStand = (0 : Int32)) → Q none h) : V G mX2_numberCycles b 0 [some (.ref 9)] [] h Q := by
  refine V_aload_n dX2_numberCycles_0 rfl rfl ?_
  refine V_get (ci := 2) (j := 10) (C0 := RX2) (T := TX2) (N := 14) dX2_numberCycles_1 rfl g9 (by decide) (by decide) kf_X2_60 rfl ?_
  refine V_if_eq (t := 8) dX2_numberCycles_4 (by decide) (fun z1 => ?_) (fun z1 => ?_)
  ·
    refine V_aload_n dX2_numberCycles_8 rfl rfl ?_
    exact V_sub (by exact (And.intro rfl True.intro)) (q1 z1)
  ·
    exact V_vret dX2_numberCycles_7 rfl (q2 z1)
theorem tX2_numberCycles_36 {G : gx} {b : bg} {h : ah} {Q : Option Value → ah → Prop} {x1 : Int32} {raddend : Int32} {rexchanges : Int32} {rleadsStand : Int32} {rnumbersStand : Int32} {rcycleCount : Int32} {rcountStands : Int32} {wletters : Int32} {wlength : Int32} {wall : Int32} {whigh : Int32} {rnum : Nat → Int32} {rleast : Nat → Int32} (g9 : h 9 = (2, .inl [.ref 3, .ref 10, .int raddend, .ref 11, .ref 12, .int rexchanges, .ref 13, .int rleadsStand, .ref 14, .ref 15, .int rnumbersStand, .int rcycleCount, .int rcountStands, .ref 16])) (g3 : h 3 = (6, .inl [.ref 4, .int wletters, .int wlength, .int wall, .int whigh])) (g14 : h 14 = (0, .inr (20000, .inl rnum))) (g15 : h 15 = (0, .inr (20000, .inl rleast))) (q1 : (wall ≤ x1) → Q none (va_up (va_up h 9 (2, .inl [.ref 3, .ref 10, .int raddend, .ref 11, .ref 12, .int rexchanges, .ref 13, .int rleadsStand, .ref 14, .ref 15, .int (1 : Int32), .int rcycleCount, .int rcountStands, .ref 16])) 9 (2, .inl [.ref 3, .ref 10, .int raddend, .ref 11, .ref 12, .int rexchanges, .ref 13, .int rleadsStand, .ref 14, .ref 15, .int (1 : Int32), .int rcycleCount, .int (1 : Int32), .ref 16]))) (q2 : (¬ wall ≤ x1) → vp_in x1 20000) (q3 : (¬ wall ≤ x1) → (¬ (rnum x1.toNatClampNeg) = (-1 : Int32)) → V G mX2_numberCycles b 36 [some (.ref 9), some (.int (x1 + (1 : Int32)))] [] h Q) (q4 : (¬ wall ≤ x1) → ((rnum x1.toNatClampNeg) = (-1 : Int32)) → vp_in rcycleCount 20000) (q5 : (¬ wall ≤ x1) → ((rnum x1.toNatClampNeg) = (-1 : Int32)) → V G mX2_numberCycles b 73 [some (.ref 9), some (.int x1)] [.int rcycleCount, .int x1, .ref 9] (va_up h 15 (0, .inr (20000, .inl (upd rleast rcycleCount.toNatClampNeg x1)))) Q) : V G mX2_numberCycles b 36 [some (.ref 9), some (.int x1)] [] h Q := by
  refine V_iload_n dX2_numberCycles_36 rfl rfl ?_
  refine V_aload_n dX2_numberCycles_37 rfl rfl ?_
  refine V_get (ci := 2) (j := 0) (C0 := RX2) (T := TX2) (N := 14) dX2_numberCycles_38 rfl g9 (by decide) (by decide) kf_X2_33 rfl ?_
  refine V_getN (ci := 6) (j := 3) (C0 := RX6) (T := TX6) (N := 5) dX2_numberCycles_41 rfl g3 (by decide) (by decide) kf_X2_78 rfl ?_
  refine V_icmp_ge (t := 92) dX2_numberCycles_44 (by decide) (fun z1 => ?_) (fun z1 => ?_)
  ·
    refine V_aload_n dX2_numberCycles_92 rfl rfl ?_
    refine V_iconst dX2_numberCycles_93 ic_1 ?_
    refine V_put (ci := 2) (j := 10) (C0 := RX2) (T := TX2) (N := 14) (ty := .boolean) dX2_numberCycles_94 rfl g9 (by decide) (by decide) kf_X2_60 rfl (by decide +kernel) rfl rfl (Nat.le_of_ble_eq_true rfl) ?_
    refine V_aload_n dX2_numberCycles_97 rfl rfl ?_
    refine V_iconst dX2_numberCycles_98 ic_1 ?_
    refine V_put (ci := 2) (j := 12) (C0 := RX2) (T := TX2) (N := 14) (ty := .boolean) dX2_numberCycles_99 rfl rfl (by decide) (by decide) kf_X2_63 rfl (by decide +kernel) rfl rfl (Nat.le_of_ble_eq_true rfl) ?_
    exact V_vret dX2_numberCycles_102 rfl (q1 z1)
  ·
    refine V_aload_n dX2_numberCycles_47 rfl rfl ?_
    refine V_get (ci := 2) (j := 8) (C0 := RX2) (T := TX2) (N := 14) dX2_numberCycles_48 rfl g9 (by decide) (by decide) kf_X2_24 rfl ?_
    refine V_iload_n dX2_numberCycles_51 rfl rfl ?_
    refine V_iald dX2_numberCycles_52 g14 (q2 z1) ?_
    refine V_iconst dX2_numberCycles_53 ic_m1 ?_
    refine V_icmp_ne (t := 86) dX2_numberCycles_54 (by decide) (fun z2 => ?_) (fun z2 => ?_)
    ·
      refine V_inc dX2_numberCycles_86 ic_1 rfl (Nat.le_of_ble_eq_true rfl) ?_
      refine V_goto (t := 36) dX2_numberCycles_89 (by decide) ?_
      exact V_sub (by exact (And.intro rfl (And.intro rfl True.intro))) (q3 z1 z2)
    ·
      refine V_aload_n dX2_numberCycles_57 rfl rfl ?_
      refine V_get (ci := 2) (j := 9) (C0 := RX2) (T := TX2) (N := 14) dX2_numberCycles_58 rfl g9 (by decide) (by decide) kf_X2_27 rfl ?_
      refine V_aload_n dX2_numberCycles_61 rfl rfl ?_
      refine V_get (ci := 2) (j := 11) (C0 := RX2) (T := TX2) (N := 14) dX2_numberCycles_62 rfl g9 (by decide) (by decide) kf_X2_93 rfl ?_
      refine V_iload_n dX2_numberCycles_65 rfl rfl ?_
      refine V_iast dX2_numberCycles_66 g15 (q4 z1 z2) ?_
      refine V_aload_n dX2_numberCycles_67 rfl rfl ?_
      refine V_iload_n dX2_numberCycles_68 rfl rfl ?_
      refine V_aload_n dX2_numberCycles_69 rfl rfl ?_
      refine V_get (ci := 2) (j := 11) (C0 := RX2) (T := TX2) (N := 14) dX2_numberCycles_70 rfl g9 (by decide) (by decide) kf_X2_93 rfl ?_
      exact V_sub (by exact (And.intro rfl (And.intro rfl True.intro))) (q5 z1 z2)
theorem tX2_numberCycles_12 {G : gx} {b : bg} {h : ah} {Q : Option Value → ah → Prop} {raddend : Int32} {rexchanges : Int32} {rleadsStand : Int32} {rnumbersStand : Int32} {rcycleCount : Int32} {rcountStands : Int32} {wletters : Int32} {wlength : Int32} {wall : Int32} {whigh : Int32} (g9 : h 9 = (2, .inl [.ref 3, .ref 10, .int raddend, .ref 11, .ref 12, .int rexchanges, .ref 13, .int rleadsStand, .ref 14, .ref 15, .int rnumbersStand, .int rcycleCount, .int rcountStands, .ref 16])) (g3 : h 3 = (6, .inl [.ref 4, .int wletters, .int wlength, .int wall, .int whigh])) (q1 : V G mX2_numberCycles b 26 [some (.ref 9)] [.int (-1 : Int32), .int wall, .int (0 : Int32), .ref 14] h Q) : V G mX2_numberCycles b 12 [some (.ref 9)] [.ref 13] h Q := by
  refine V_pop dX2_numberCycles_12 rfl ?_
  refine V_aload_n dX2_numberCycles_13 rfl rfl ?_
  refine V_get (ci := 2) (j := 8) (C0 := RX2) (T := TX2) (N := 14) dX2_numberCycles_14 rfl g9 (by decide) (by decide) kf_X2_24 rfl ?_
  refine V_iconst dX2_numberCycles_17 ic_0 ?_
  refine V_aload_n dX2_numberCycles_18 rfl rfl ?_
  refine V_get (ci := 2) (j := 0) (C0 := RX2) (T := TX2) (N := 14) dX2_numberCycles_19 rfl g9 (by decide) (by decide) kf_X2_33 rfl ?_
  refine V_getN (ci := 6) (j := 3) (C0 := RX6) (T := TX6) (N := 5) dX2_numberCycles_22 rfl g3 (by decide) (by decide) kf_X2_78 rfl ?_
  refine V_iconst dX2_numberCycles_25 ic_m1 ?_
  exact V_sub (by exact (And.intro rfl True.intro)) (q1)
theorem tX2_numberCycles_29 {G : gx} {b : bg} {h : ah} {Q : Option Value → ah → Prop} {raddend : Int32} {rexchanges : Int32} {rleadsStand : Int32} {rnumbersStand : Int32} {rcycleCount : Int32} {rcountStands : Int32} (g9 : h 9 = (2, .inl [.ref 3, .ref 10, .int raddend, .ref 11, .ref 12, .int rexchanges, .ref 13, .int rleadsStand, .ref 14, .ref 15, .int rnumbersStand, .int rcycleCount, .int rcountStands, .ref 16])) (q1 : V G mX2_numberCycles b 36 [some (.ref 9), some (.int (0 : Int32))] [] (va_up h 9 (2, .inl [.ref 3, .ref 10, .int raddend, .ref 11, .ref 12, .int rexchanges, .ref 13, .int rleadsStand, .ref 14, .ref 15, .int rnumbersStand, .int (0 : Int32), .int rcountStands, .ref 16])) Q) : V G mX2_numberCycles b 29 [some (.ref 9)] [] h Q := by
  refine V_aload_n dX2_numberCycles_29 rfl rfl ?_
  refine V_iconst dX2_numberCycles_30 ic_0 ?_
  refine V_put (ci := 2) (j := 11) (C0 := RX2) (T := TX2) (N := 14) (ty := .int) dX2_numberCycles_31 rfl g9 (by decide) (by decide) kf_X2_93 rfl (by decide +kernel) rfl rfl (Nat.le_of_ble_eq_true rfl) ?_
  refine V_iconst dX2_numberCycles_34 ic_0 ?_
  refine V_istore_n dX2_numberCycles_35 rfl (Nat.le_of_ble_eq_true rfl) ?_
  exact V_sub (by exact (And.intro rfl (And.intro rfl True.intro))) (q1)
theorem tX2_numberCycles_76 {G : gx} {b : bg} {h : ah} {Q : Option Value → ah → Prop} {x1 : Int32} {raddend : Int32} {rexchanges : Int32} {rleadsStand : Int32} {rnumbersStand : Int32} {rcycleCount : Int32} {rcountStands : Int32} (g9 : h 9 = (2, .inl [.ref 3, .ref 10, .int raddend, .ref 11, .ref 12, .int rexchanges, .ref 13, .int rleadsStand, .ref 14, .ref 15, .int rnumbersStand, .int rcycleCount, .int rcountStands, .ref 16])) (q1 : V G mX2_numberCycles b 36 [some (.ref 9), some (.int (x1 + (1 : Int32)))] [] (va_up h 9 (2, .inl [.ref 3, .ref 10, .int raddend, .ref 11, .ref 12, .int rexchanges, .ref 13, .int rleadsStand, .ref 14, .ref 15, .int rnumbersStand, .int (rcycleCount + (1 : Int32)), .int rcountStands, .ref 16])) Q) : V G mX2_numberCycles b 76 [some (.ref 9), some (.int x1)] [] h Q := by
  refine V_aload_n dX2_numberCycles_76 rfl rfl ?_
  refine V_dup dX2_numberCycles_77 rfl ?_
  refine V_get (ci := 2) (j := 11) (C0 := RX2) (T := TX2) (N := 14) dX2_numberCycles_78 rfl g9 (by decide) (by decide) kf_X2_93 rfl ?_
  refine V_iconst dX2_numberCycles_81 ic_1 ?_
  refine V_iadd dX2_numberCycles_82 ?_
  refine V_put (ci := 2) (j := 11) (C0 := RX2) (T := TX2) (N := 14) (ty := .int) dX2_numberCycles_83 rfl g9 (by decide) (by decide) kf_X2_93 rfl (by decide +kernel) rfl rfl (Nat.le_of_ble_eq_true rfl) ?_
  refine V_inc dX2_numberCycles_86 ic_1 rfl (Nat.le_of_ble_eq_true rfl) ?_
  refine V_goto (t := 36) dX2_numberCycles_89 (by decide) ?_
  exact V_sub (by exact (And.intro rfl (And.intro rfl True.intro))) (q1)
theorem cX2_numberCycles_9 {G : gx} {d mc ms cc zz d2 mc2 ms2 : Nat} {L : List (Option Value)} {S : List Value} {h : ah} {Q Q2 : Option Value → ah → Prop} {k : Nat} {fs : List Value} (hM : Ct G mX2_leads d2 mc2 ms2 (.ref (k + 2) :: []) h Q2) (hc : h (k + 2) = (2, .inl fs)) (hdd : d2 < d ∧ d ≤ 9) (hrm : (S.map fun v => v.category).sum ≤ 8) (hf : cc + mc2 ≤ mc ∧ zz + ms2 ≤ ms) (kk : ∀ r h2, Q2 r h2 → V G mX2_numberCycles (d, mc, ms, cc + mc2, zz + ms2) 12 L (r.toList ++ S) h2 Q) : V G mX2_numberCycles (d, mc, ms, cc, zz) 9 L (.ref (k + 2) :: S) h Q := V_callV (ci := 2) (T := TX2) (N := 14) hM dX2_numberCycles_9 ⟨km_X2_71, ki_X2_leads, ks_X2_leads⟩ cw_X2_leads rfl hc (by decide) hdd rfl rfl hrm hf kk
theorem cX2_numberCycles_26 {G : gx} {d mc ms cc zz d2 mc2 ms2 : Nat} {L : List (Option Value)} {S : List Value} {h : ah} {Q Q2 : Option Value → ah → Prop} {a0 a1 a2 a3 : Value} (hM : Ct G mJ7_fill_fda19 d2 mc2 ms2 [a0, a1, a2, a3] h Q2) (hdd : d2 < d ∧ d ≤ 9) (hrm : (S.map fun v => v.category).sum ≤ 8) (hf : cc + mc2 ≤ mc ∧ zz + ms2 ≤ ms) (kk : ∀ r h2, Q2 r h2 → V G mX2_numberCycles (d, mc, ms, cc + mc2, zz + ms2) 29 L (r.toList ++ S) h2 Q) : V G mX2_numberCycles (d, mc, ms, cc, zz) 26 L (a3 :: a2 :: a1 :: a0 :: S) h Q := V_callS hM dX2_numberCycles_26 ⟨km_X2_90, kt_J7_fill_fda19⟩ cw_J7_fill_fda19 hdd rfl rfl hrm hf kk
theorem cX2_numberCycles_73 {G : gx} {d mc ms cc zz d2 mc2 ms2 : Nat} {L : List (Option Value)} {S : List Value} {h : ah} {Q Q2 : Option Value → ah → Prop} {k : Nat} {fs : List Value} {a0 a1 : Value} (hM : Ct G mX2_markCycle d2 mc2 ms2 (.ref (k + 2) :: [a0, a1]) h Q2) (hc : h (k + 2) = (2, .inl fs)) (hdd : d2 < d ∧ d ≤ 9) (hrm : (S.map fun v => v.category).sum ≤ 8) (hf : cc + mc2 ≤ mc ∧ zz + ms2 ≤ ms) (kk : ∀ r h2, Q2 r h2 → V G mX2_numberCycles (d, mc, ms, cc + mc2, zz + ms2) 76 L (r.toList ++ S) h2 Q) : V G mX2_numberCycles (d, mc, ms, cc, zz) 73 L (a1 :: a0 :: .ref (k + 2) :: S) h Q := V_callV (ci := 2) (T := TX2) (N := 14) hM dX2_numberCycles_73 ⟨km_X2_96, ki_X2_markCycle, ks_X2_markCycle⟩ cw_X2_markCycle rfl hc (by decide) hdd rfl rfl hrm hf kk
theorem tX2_markCycle_0 {G : gx} {b : bg} {h : ah} {Q : Option Value → ah → Prop} {x1 : Int32} {x2 : Int32} (q1 : V G mX2_markCycle b 5 [some (.ref 9), some (.int x1), some (.int x2), some (.int x1), some (.int (0 : Int32))] [] h Q) : V G mX2_markCycle b 0 [some (.ref 9), some (.int x1), some (.int x2)] [] h Q := by
  refine V_iload_n dX2_markCycle_0 rfl rfl ?_
  refine V_istore_n dX2_markCycle_1 rfl (Nat.le_of_ble_eq_true rfl) ?_
  refine V_iconst dX2_markCycle_2 ic_0 ?_
  refine V_istore dX2_markCycle_3 (Nat.le_of_ble_eq_true rfl) ?_
  exact V_sub (by exact (And.intro rfl (And.intro rfl (And.intro rfl (And.intro rfl (And.intro rfl True.intro)))))) (q1)
theorem tX2_markCycle_5 {G : gx} {b : bg} {h : ah} {Q : Option Value → ah → Prop} {x1 : Int32} {x2 : Int32} {x3 : Int32} {x4 : Int32} {raddend : Int32} {rexchanges : Int32} {rleadsStand : Int32} {rnumbersStand : Int32} {rcycleCount : Int32} {rcountStands : Int32} {wletters : Int32} {wlength : Int32} {wall : Int32} {whigh : Int32} {rnum : Nat → Int32} {rlead : Nat → Int32} (g9 : h 9 = (2, .inl [.ref 3, .ref 10, .int raddend, .ref 11, .ref 12, .int rexchanges, .ref 13, .int rleadsStand, .ref 14, .ref 15, .int rnumbersStand, .int rcycleCount, .int rcountStands, .ref 16])) (g3 : h 3 = (6, .inl [.ref 4, .int wletters, .int wlength, .int wall, .int whigh])) (g14 : h 14 = (0, .inr (20000, .inl rnum))) (g13 : h 13 = (0, .inr (20000, .inl rlead))) (q1 : (wall ≤ x4) → Q none h) (q2 : (¬ wall ≤ x4) → vp_in x3 20000) (q3 : (¬ wall ≤ x4) → (¬ (rnum x3.toNatClampNeg) = (-1 : Int32)) → Q none h) (q4 : (¬ wall ≤ x4) → ((rnum x3.toNatClampNeg) = (-1 : Int32)) → vp_in x3 20000) (q5 : (¬ wall ≤ x4) → ((rnum x3.toNatClampNeg) = (-1 : Int32)) → vp_in x3 20000) (q6 : (¬ wall ≤ x4) → ((rnum x3.toNatClampNeg) = (-1 : Int32)) → V G mX2_markCycle b 5 [some (.ref 9), some (.int x1), some (.int x2), some (.int (rlead x3.toNatClampNeg)), some (.int (x4 + (1 : Int32)))] [] (va_up h 14 (0, .inr (20000, .inl (upd rnum x3.toNatClampNeg x2)))) Q) : V G mX2_markCycle b 5 [some (.ref 9), some (.int x1), some (.int x2), some (.int x3), some (.int x4)] [] h Q := by
  refine V_iload dX2_markCycle_5 rfl ?_
  refine V_aload_n dX2_markCycle_7 rfl rfl ?_
  refine V_get (ci := 2) (j := 0) (C0 := RX2) (T := TX2) (N := 14) dX2_markCycle_8 rfl g9 (by decide) (by decide) kf_X2_33 rfl ?_
  refine V_getN (ci := 6) (j := 3) (C0 := RX6) (T := TX6) (N := 5) dX2_markCycle_11 rfl g3 (by decide) (by decide) kf_X2_78 rfl ?_
  refine V_icmp_ge (t := 47) dX2_markCycle_14 (by decide) (fun z1 => ?_) (fun z1 => ?_)
  ·
    exact V_vret dX2_markCycle_47 rfl (q1 z1)
  ·
    refine V_aload_n dX2_markCycle_17 rfl rfl ?_
    refine V_get (ci := 2) (j := 8) (C0 := RX2) (T := TX2) (N := 14) dX2_markCycle_18 rfl g9 (by decide) (by decide) kf_X2_24 rfl ?_
    refine V_iload_n dX2_markCycle_21 rfl rfl ?_
    refine V_iald dX2_markCycle_22 g14 (q2 z1) ?_
    refine V_iconst dX2_markCycle_23 ic_m1 ?_
    refine V_icmp_ne (t := 47) dX2_markCycle_24 (by decide) (fun z2 => ?_) (fun z2 => ?_)
    ·
      exact V_vret dX2_markCycle_47 rfl (q3 z1 z2)
    ·
      refine V_aload_n dX2_markCycle_27 rfl rfl ?_
      refine V_get (ci := 2) (j := 8) (C0 := RX2) (T := TX2) (N := 14) dX2_markCycle_28 rfl g9 (by decide) (by decide) kf_X2_24 rfl ?_
      refine V_iload_n dX2_markCycle_31 rfl rfl ?_
      refine V_iload_n dX2_markCycle_32 rfl rfl ?_
      refine V_iast dX2_markCycle_33 g14 (q4 z1 z2) ?_
      refine V_aload_n dX2_markCycle_34 rfl rfl ?_
      refine V_get (ci := 2) (j := 6) (C0 := RX2) (T := TX2) (N := 14) dX2_markCycle_35 rfl g9 (by decide) (by decide) kf_X2_21 rfl ?_
      refine V_iload_n dX2_markCycle_38 rfl rfl ?_
      refine V_iald dX2_markCycle_39 g13 (q5 z1 z2) ?_
      refine V_istore_n dX2_markCycle_40 rfl (Nat.le_of_ble_eq_true rfl) ?_
      refine V_inc dX2_markCycle_41 ic_1 rfl (Nat.le_of_ble_eq_true rfl) ?_
      refine V_goto (t := 5) dX2_markCycle_44 (by decide) ?_
      exact V_sub (by exact (And.intro rfl (And.intro rfl (And.intro rfl (And.intro rfl (And.intro rfl True.intro)))))) (q6 z1 z2)
theorem tX2_howManyCycles_0 {G : gx} {b : bg} {h : ah} {Q : Option Value → ah → Prop} {raddend : Int32} {rexchanges : Int32} {rleadsStand : Int32} {rnumbersStand : Int32} {rcycleCount : Int32} {rcountStands : Int32} (g9 : h 9 = (2, .inl [.ref 3, .ref 10, .int raddend, .ref 11, .ref 12, .int rexchanges, .ref 13, .int rleadsStand, .ref 14, .ref 15, .int rnumbersStand, .int rcycleCount, .int rcountStands, .ref 16])) (q1 : (¬ rcountStands = (0 : Int32)) → Q (some (.int rcycleCount)) h) (q2 : (rcountStands = (0 : Int32)) → V G mX2_howManyCycles b 8 [some (.ref 9)] [.ref 9] h Q) : V G mX2_howManyCycles b 0 [some (.ref 9)] [] h Q := by
  refine V_aload_n dX2_howManyCycles_0 rfl rfl ?_
  refine V_get (ci := 2) (j := 12) (C0 := RX2) (T := TX2) (N := 14) dX2_howManyCycles_1 rfl g9 (by decide) (by decide) kf_X2_63 rfl ?_
  refine V_if_ne (t := 11) dX2_howManyCycles_4 (by decide) (fun z1 => ?_) (fun z1 => ?_)
  ·
    refine V_aload_n dX2_howManyCycles_11 rfl rfl ?_
    refine V_get (ci := 2) (j := 11) (C0 := RX2) (T := TX2) (N := 14) dX2_howManyCycles_12 rfl g9 (by decide) (by decide) kf_X2_93 rfl ?_
    exact V_iret dX2_howManyCycles_15 rfl (q1 z1)
  ·
    refine V_aload_n dX2_howManyCycles_7 rfl rfl ?_
    exact V_sub (by exact (And.intro rfl True.intro)) (q2 z1)
theorem tX2_howManyCycles_11 {G : gx} {b : bg} {h : ah} {Q : Option Value → ah → Prop} {raddend : Int32} {rexchanges : Int32} {rleadsStand : Int32} {rnumbersStand : Int32} {rcycleCount : Int32} {rcountStands : Int32} (g9 : h 9 = (2, .inl [.ref 3, .ref 10, .int raddend, .ref 11, .ref 12, .int rexchanges, .ref 13, .int rleadsStand, .ref 14, .ref 15, .int rnumbersStand, .int rcycleCount, .int rcountStands, .ref 16])) (q1 : Q (some (.int rcycleCount)) h) : V G mX2_howManyCycles b 11 [some (.ref 9)] [] h Q := by
  refine V_aload_n dX2_howManyCycles_11 rfl rfl ?_
  refine V_get (ci := 2) (j := 11) (C0 := RX2) (T := TX2) (N := 14) dX2_howManyCycles_12 rfl g9 (by decide) (by decide) kf_X2_93 rfl ?_
  exact V_iret dX2_howManyCycles_15 rfl (q1)
theorem cX2_howManyCycles_8 {G : gx} {d mc ms cc zz d2 mc2 ms2 : Nat} {L : List (Option Value)} {S : List Value} {h : ah} {Q Q2 : Option Value → ah → Prop} {k : Nat} {fs : List Value} (hM : Ct G mX2_numberCycles d2 mc2 ms2 (.ref (k + 2) :: []) h Q2) (hc : h (k + 2) = (2, .inl fs)) (hdd : d2 < d ∧ d ≤ 9) (hrm : (S.map fun v => v.category).sum ≤ 8) (hf : cc + mc2 ≤ mc ∧ zz + ms2 ≤ ms) (kk : ∀ r h2, Q2 r h2 → V G mX2_howManyCycles (d, mc, ms, cc + mc2, zz + ms2) 11 L (r.toList ++ S) h2 Q) : V G mX2_howManyCycles (d, mc, ms, cc, zz) 8 L (.ref (k + 2) :: S) h Q := V_callV (ci := 2) (T := TX2) (N := 14) hM dX2_howManyCycles_8 ⟨km_X2_100, ki_X2_numberCycles, ks_X2_numberCycles⟩ cw_X2_numberCycles rfl hc (by decide) hdd rfl rfl hrm hf kk
theorem tX2_numberOfCycle_0 {G : gx} {b : bg} {h : ah} {Q : Option Value → ah → Prop} {x1 : Int32} (q1 : V G mX2_numberOfCycle b 1 [some (.ref 9), some (.int x1)] [.ref 9] h Q) : V G mX2_numberOfCycle b 0 [some (.ref 9), some (.int x1)] [] h Q := by
  refine V_aload_n dX2_numberOfCycle_0 rfl rfl ?_
  exact V_sub (by exact (And.intro rfl (And.intro rfl True.intro))) (q1)
theorem tX2_numberOfCycle_4 {G : gx} {b : bg} {h : ah} {Q : Option Value → ah → Prop} {x1 : Int32} {raddend : Int32} {rexchanges : Int32} {rleadsStand : Int32} {rnumbersStand : Int32} {rcycleCount : Int32} {rcountStands : Int32} {rnum : Nat → Int32} (g9 : h 9 = (2, .inl [.ref 3, .ref 10, .int raddend, .ref 11, .ref 12, .int rexchanges, .ref 13, .int rleadsStand, .ref 14, .ref 15, .int rnumbersStand, .int rcycleCount, .int rcountStands, .ref 16])) (g14 : h 14 = (0, .inr (20000, .inl rnum))) (q1 : vp_in x1 20000) (q2 : Q (some (.int (rnum x1.toNatClampNeg))) h) : V G mX2_numberOfCycle b 4 [some (.ref 9), some (.int x1)] [] h Q := by
  refine V_aload_n dX2_numberOfCycle_4 rfl rfl ?_
  refine V_get (ci := 2) (j := 8) (C0 := RX2) (T := TX2) (N := 14) dX2_numberOfCycle_5 rfl g9 (by decide) (by decide) kf_X2_24 rfl ?_
  refine V_iload_n dX2_numberOfCycle_8 rfl rfl ?_
  refine V_iald dX2_numberOfCycle_9 g14 (q1) ?_
  exact V_iret dX2_numberOfCycle_10 rfl (q2)
theorem cX2_numberOfCycle_1 {G : gx} {d mc ms cc zz d2 mc2 ms2 : Nat} {L : List (Option Value)} {S : List Value} {h : ah} {Q Q2 : Option Value → ah → Prop} {k : Nat} {fs : List Value} (hM : Ct G mX2_numberCycles d2 mc2 ms2 (.ref (k + 2) :: []) h Q2) (hc : h (k + 2) = (2, .inl fs)) (hdd : d2 < d ∧ d ≤ 9) (hrm : (S.map fun v => v.category).sum ≤ 8) (hf : cc + mc2 ≤ mc ∧ zz + ms2 ≤ ms) (kk : ∀ r h2, Q2 r h2 → V G mX2_numberOfCycle (d, mc, ms, cc + mc2, zz + ms2) 4 L (r.toList ++ S) h2 Q) : V G mX2_numberOfCycle (d, mc, ms, cc, zz) 1 L (.ref (k + 2) :: S) h Q := V_callV (ci := 2) (T := TX2) (N := 14) hM dX2_numberOfCycle_1 ⟨km_X2_100, ki_X2_numberCycles, ks_X2_numberCycles⟩ cw_X2_numberCycles rfl hc (by decide) hdd rfl rfl hrm hf kk
theorem tX2_leastOfCycle_0 {G : gx} {b : bg} {h : ah} {Q : Option Value → ah → Prop} {x1 : Int32} (q1 : V G mX2_leastOfCycle b 1 [some (.ref 9), some (.int x1)] [.ref 9] h Q) : V G mX2_leastOfCycle b 0 [some (.ref 9), some (.int x1)] [] h Q := by
  refine V_aload_n dX2_leastOfCycle_0 rfl rfl ?_
  exact V_sub (by exact (And.intro rfl (And.intro rfl True.intro))) (q1)
theorem tX2_leastOfCycle_4 {G : gx} {b : bg} {h : ah} {Q : Option Value → ah → Prop} {x1 : Int32} {raddend : Int32} {rexchanges : Int32} {rleadsStand : Int32} {rnumbersStand : Int32} {rcycleCount : Int32} {rcountStands : Int32} {rleast : Nat → Int32} (g9 : h 9 = (2, .inl [.ref 3, .ref 10, .int raddend, .ref 11, .ref 12, .int rexchanges, .ref 13, .int rleadsStand, .ref 14, .ref 15, .int rnumbersStand, .int rcycleCount, .int rcountStands, .ref 16])) (g15 : h 15 = (0, .inr (20000, .inl rleast))) (q1 : vp_in x1 20000) (q2 : Q (some (.int (rleast x1.toNatClampNeg))) h) : V G mX2_leastOfCycle b 4 [some (.ref 9), some (.int x1)] [] h Q := by
  refine V_aload_n dX2_leastOfCycle_4 rfl rfl ?_
  refine V_get (ci := 2) (j := 9) (C0 := RX2) (T := TX2) (N := 14) dX2_leastOfCycle_5 rfl g9 (by decide) (by decide) kf_X2_27 rfl ?_
  refine V_iload_n dX2_leastOfCycle_8 rfl rfl ?_
  refine V_iald dX2_leastOfCycle_9 g15 (q1) ?_
  exact V_iret dX2_leastOfCycle_10 rfl (q2)
theorem cX2_leastOfCycle_1 {G : gx} {d mc ms cc zz d2 mc2 ms2 : Nat} {L : List (Option Value)} {S : List Value} {h : ah} {Q Q2 : Option Value → ah → Prop} {k : Nat} {fs : List Value} (hM : Ct G mX2_numberCycles d2 mc2 ms2 (.ref (k + 2) :: []) h Q2) (hc : h (k + 2) = (2, .inl fs)) (hdd : d2 < d ∧ d ≤ 9) (hrm : (S.map fun v => v.category).sum ≤ 8) (hf : cc + mc2 ≤ mc ∧ zz + ms2 ≤ ms) (kk : ∀ r h2, Q2 r h2 → V G mX2_leastOfCycle (d, mc, ms, cc + mc2, zz + ms2) 4 L (r.toList ++ S) h2 Q) : V G mX2_leastOfCycle (d, mc, ms, cc, zz) 1 L (.ref (k + 2) :: S) h Q := V_callV (ci := 2) (T := TX2) (N := 14) hM dX2_leastOfCycle_1 ⟨km_X2_100, ki_X2_numberCycles, ks_X2_numberCycles⟩ cw_X2_numberCycles rfl hc (by decide) hdd rfl rfl hrm hf kk
theorem tX2_wordsOfCycle_0 {G : gx} {b : bg} {h : ah} {Q : Option Value → ah → Prop} {x1 : Int32} (q1 : V G mX2_wordsOfCycle b 1 [some (.ref 9), some (.int x1)] [.ref 9] h Q) : V G mX2_wordsOfCycle b 0 [some (.ref 9), some (.int x1)] [] h Q := by
  refine V_aload_n dX2_wordsOfCycle_0 rfl rfl ?_
  exact V_sub (by exact (And.intro rfl (And.intro rfl True.intro))) (q1)
theorem tX2_wordsOfCycle_21 {G : gx} {b : bg} {h : ah} {Q : Option Value → ah → Prop} {x1 : Int32} {x2 : Int32} {x3 : Int32} {x4 : Int32} {raddend : Int32} {rexchanges : Int32} {rleadsStand : Int32} {rnumbersStand : Int32} {rcycleCount : Int32} {rcountStands : Int32} {wletters : Int32} {wlength : Int32} {wall : Int32} {whigh : Int32} {rlead : Nat → Int32} (g9 : h 9 = (2, .inl [.ref 3, .ref 10, .int raddend, .ref 11, .ref 12, .int rexchanges, .ref 13, .int rleadsStand, .ref 14, .ref 15, .int rnumbersStand, .int rcycleCount, .int rcountStands, .ref 16])) (g3 : h 3 = (6, .inl [.ref 4, .int wletters, .int wlength, .int wall, .int whigh])) (g13 : h 13 = (0, .inr (20000, .inl rlead))) (q1 : (wall ≤ x4) → Q (some (.int x4)) h) (q2 : (¬ wall ≤ x4) → (x3 = x2) → Q (some (.int x4)) h) (q3 : (¬ wall ≤ x4) → (¬ x3 = x2) → vp_in x3 20000) (q4 : (¬ wall ≤ x4) → (¬ x3 = x2) → V G mX2_wordsOfCycle b 21 [some (.ref 9), some (.int x1), some (.int x2), some (.int (rlead x3.toNatClampNeg)), some (.int (x4 + (1 : Int32)))] [] h Q) : V G mX2_wordsOfCycle b 21 [some (.ref 9), some (.int x1), some (.int x2), some (.int x3), some (.int x4)] [] h Q := by
  refine V_iload dX2_wordsOfCycle_21 rfl ?_
  refine V_aload_n dX2_wordsOfCycle_23 rfl rfl ?_
  refine V_get (ci := 2) (j := 0) (C0 := RX2) (T := TX2) (N := 14) dX2_wordsOfCycle_24 rfl g9 (by decide) (by decide) kf_X2_33 rfl ?_
  refine V_getN (ci := 6) (j := 3) (C0 := RX6) (T := TX6) (N := 5) dX2_wordsOfCycle_27 rfl g3 (by decide) (by decide) kf_X2_78 rfl ?_
  refine V_icmp_ge (t := 51) dX2_wordsOfCycle_30 (by decide) (fun z1 => ?_) (fun z1 => ?_)
  ·
    refine V_iload dX2_wordsOfCycle_51 rfl ?_
    exact V_iret dX2_wordsOfCycle_53 rfl (q1 z1)
  ·
    refine V_iload_n dX2_wordsOfCycle_33 rfl rfl ?_
    refine V_iload_n dX2_wordsOfCycle_34 rfl rfl ?_
    refine V_icmp_eq (t := 51) dX2_wordsOfCycle_35 (by decide) (fun z2 => ?_) (fun z2 => ?_)
    ·
      refine V_iload dX2_wordsOfCycle_51 rfl ?_
      exact V_iret dX2_wordsOfCycle_53 rfl (q2 z1 z2)
    ·
      refine V_aload_n dX2_wordsOfCycle_38 rfl rfl ?_
      refine V_get (ci := 2) (j := 6) (C0 := RX2) (T := TX2) (N := 14) dX2_wordsOfCycle_39 rfl g9 (by decide) (by decide) kf_X2_21 rfl ?_
      refine V_iload_n dX2_wordsOfCycle_42 rfl rfl ?_
      refine V_iald dX2_wordsOfCycle_43 g13 (q3 z1 z2) ?_
      refine V_istore_n dX2_wordsOfCycle_44 rfl (Nat.le_of_ble_eq_true rfl) ?_
      refine V_inc dX2_wordsOfCycle_45 ic_1 rfl (Nat.le_of_ble_eq_true rfl) ?_
      refine V_goto (t := 21) dX2_wordsOfCycle_48 (by decide) ?_
      exact V_sub (by exact (And.intro rfl (And.intro rfl (And.intro rfl (And.intro rfl (And.intro rfl True.intro)))))) (q4 z1 z2)
theorem tX2_wordsOfCycle_4 {G : gx} {b : bg} {h : ah} {Q : Option Value → ah → Prop} {x1 : Int32} {raddend : Int32} {rexchanges : Int32} {rleadsStand : Int32} {rnumbersStand : Int32} {rcycleCount : Int32} {rcountStands : Int32} {rleast : Nat → Int32} {rlead : Nat → Int32} (g9 : h 9 = (2, .inl [.ref 3, .ref 10, .int raddend, .ref 11, .ref 12, .int rexchanges, .ref 13, .int rleadsStand, .ref 14, .ref 15, .int rnumbersStand, .int rcycleCount, .int rcountStands, .ref 16])) (g15 : h 15 = (0, .inr (20000, .inl rleast))) (g13 : h 13 = (0, .inr (20000, .inl rlead))) (q1 : vp_in x1 20000) (q2 : vp_in (rleast x1.toNatClampNeg) 20000) (q3 : V G mX2_wordsOfCycle b 21 [some (.ref 9), some (.int x1), some (.int (rleast x1.toNatClampNeg)), some (.int (rlead (rleast x1.toNatClampNeg).toNatClampNeg)), some (.int (1 : Int32))] [] h Q) : V G mX2_wordsOfCycle b 4 [some (.ref 9), some (.int x1)] [] h Q := by
  refine V_aload_n dX2_wordsOfCycle_4 rfl rfl ?_
  refine V_get (ci := 2) (j := 9) (C0 := RX2) (T := TX2) (N := 14) dX2_wordsOfCycle_5 rfl g9 (by decide) (by decide) kf_X2_27 rfl ?_
  refine V_iload_n dX2_wordsOfCycle_8 rfl rfl ?_
  refine V_iald dX2_wordsOfCycle_9 g15 (q1) ?_
  refine V_istore_n dX2_wordsOfCycle_10 rfl (Nat.le_of_ble_eq_true rfl) ?_
  refine V_aload_n dX2_wordsOfCycle_11 rfl rfl ?_
  refine V_get (ci := 2) (j := 6) (C0 := RX2) (T := TX2) (N := 14) dX2_wordsOfCycle_12 rfl g9 (by decide) (by decide) kf_X2_21 rfl ?_
  refine V_iload_n dX2_wordsOfCycle_15 rfl rfl ?_
  refine V_iald dX2_wordsOfCycle_16 g13 (q2) ?_
  refine V_istore_n dX2_wordsOfCycle_17 rfl (Nat.le_of_ble_eq_true rfl) ?_
  refine V_iconst dX2_wordsOfCycle_18 ic_1 ?_
  refine V_istore dX2_wordsOfCycle_19 (Nat.le_of_ble_eq_true rfl) ?_
  exact V_sub (by exact (And.intro rfl (And.intro rfl (And.intro rfl (And.intro rfl (And.intro rfl True.intro)))))) (q3)
theorem cX2_wordsOfCycle_1 {G : gx} {d mc ms cc zz d2 mc2 ms2 : Nat} {L : List (Option Value)} {S : List Value} {h : ah} {Q Q2 : Option Value → ah → Prop} {k : Nat} {fs : List Value} (hM : Ct G mX2_numberCycles d2 mc2 ms2 (.ref (k + 2) :: []) h Q2) (hc : h (k + 2) = (2, .inl fs)) (hdd : d2 < d ∧ d ≤ 9) (hrm : (S.map fun v => v.category).sum ≤ 8) (hf : cc + mc2 ≤ mc ∧ zz + ms2 ≤ ms) (kk : ∀ r h2, Q2 r h2 → V G mX2_wordsOfCycle (d, mc, ms, cc + mc2, zz + ms2) 4 L (r.toList ++ S) h2 Q) : V G mX2_wordsOfCycle (d, mc, ms, cc, zz) 1 L (.ref (k + 2) :: S) h Q := V_callV (ci := 2) (T := TX2) (N := 14) hM dX2_wordsOfCycle_1 ⟨km_X2_100, ki_X2_numberCycles, ks_X2_numberCycles⟩ cw_X2_numberCycles rfl hc (by decide) hdd rfl rfl hrm hf kk
theorem tX2_makeExchange_0 {G : gx} {b : bg} {h : ah} {Q : Option Value → ah → Prop} {x1 : Int32} {x2 : Int32} (q1 : V G mX2_makeExchange b 4 [some (.ref 9), some (.int x1), some (.int x2)] [.int x2, .int x1, .ref 9, .ref 9] h Q) : V G mX2_makeExchange b 0 [some (.ref 9), some (.int x1), some (.int x2)] [] h Q := by
  refine V_aload_n dX2_makeExchange_0 rfl rfl ?_
  refine V_aload_n dX2_makeExchange_1 rfl rfl ?_
  refine V_iload_n dX2_makeExchange_2 rfl rfl ?_
  refine V_iload_n dX2_makeExchange_3 rfl rfl ?_
  exact V_sub (by exact (And.intro rfl (And.intro rfl (And.intro rfl True.intro)))) (q1)
theorem tX2_makeExchange_7 {G : gx} {b : bg} {h : ah} {Q : Option Value → ah → Prop} {x1 : Int32} {x2 : Int32} {s0 : Int32} {raddend : Int32} {rexchanges : Int32} {rleadsStand : Int32} {rnumbersStand : Int32} {rcycleCount : Int32} {rcountStands : Int32} (g9 : h 9 = (2, .inl [.ref 3, .ref 10, .int raddend, .ref 11, .ref 12, .int rexchanges, .ref 13, .int rleadsStand, .ref 14, .ref 15, .int rnumbersStand, .int rcycleCount, .int rcountStands, .ref 16])) (q1 : V G mX2_makeExchange b 13 [some (.ref 9), some (.int x1), some (.int x2)] [.int x2, .int x1, .ref 9] (va_up h 9 (2, .inl [.ref 3, .ref 10, .int raddend, .ref 11, .ref 12, .int rexchanges, .ref 13, .int rleadsStand, .ref 14, .ref 15, .int rnumbersStand, .int s0, .int rcountStands, .ref 16])) Q) : V G mX2_makeExchange b 7 [some (.ref 9), some (.int x1), some (.int x2)] [.int s0, .ref 9] h Q := by
  refine V_put (ci := 2) (j := 11) (C0 := RX2) (T := TX2) (N := 14) (ty := .int) dX2_makeExchange_7 rfl g9 (by decide) (by decide) kf_X2_93 rfl (by decide +kernel) rfl rfl (Nat.le_of_ble_eq_true rfl) ?_
  refine V_aload_n dX2_makeExchange_10 rfl rfl ?_
  refine V_iload_n dX2_makeExchange_11 rfl rfl ?_
  refine V_iload_n dX2_makeExchange_12 rfl rfl ?_
  exact V_sub (by exact (And.intro rfl (And.intro rfl (And.intro rfl True.intro)))) (q1)
theorem tX2_makeExchange_16 {G : gx} {b : bg} {h : ah} {Q : Option Value → ah → Prop} {x1 : Int32} {x2 : Int32} (q1 : V G mX2_makeExchange b 19 [some (.ref 9), some (.int x1), some (.int x2)] [.int x2, .int x1, .ref 9] h Q) : V G mX2_makeExchange b 16 [some (.ref 9), some (.int x1), some (.int x2)] [] h Q := by
  refine V_aload_n dX2_makeExchange_16 rfl rfl ?_
  refine V_iload_n dX2_makeExchange_17 rfl rfl ?_
  refine V_iload_n dX2_makeExchange_18 rfl rfl ?_
  exact V_sub (by exact (And.intro rfl (And.intro rfl (And.intro rfl True.intro)))) (q1)
theorem tX2_makeExchange_22 {G : gx} {b : bg} {h : ah} {Q : Option Value → ah → Prop} {x1 : Int32} {x2 : Int32} {raddend : Int32} {rexchanges : Int32} {rleadsStand : Int32} {rnumbersStand : Int32} {rcycleCount : Int32} {rcountStands : Int32} (g9 : h 9 = (2, .inl [.ref 3, .ref 10, .int raddend, .ref 11, .ref 12, .int rexchanges, .ref 13, .int rleadsStand, .ref 14, .ref 15, .int rnumbersStand, .int rcycleCount, .int rcountStands, .ref 16])) (q1 : Q (some (.int rcycleCount)) h) : V G mX2_makeExchange b 22 [some (.ref 9), some (.int x1), some (.int x2)] [] h Q := by
  refine V_aload_n dX2_makeExchange_22 rfl rfl ?_
  refine V_get (ci := 2) (j := 11) (C0 := RX2) (T := TX2) (N := 14) dX2_makeExchange_23 rfl g9 (by decide) (by decide) kf_X2_93 rfl ?_
  exact V_iret dX2_makeExchange_26 rfl (q1)
theorem cX2_makeExchange_4 {G : gx} {d mc ms cc zz d2 mc2 ms2 : Nat} {L : List (Option Value)} {S : List Value} {h : ah} {Q Q2 : Option Value → ah → Prop} {k : Nat} {fs : List Value} {a0 a1 : Value} (hM : Ct G mX2_countBehindExchange d2 mc2 ms2 (.ref (k + 2) :: [a0, a1]) h Q2) (hc : h (k + 2) = (2, .inl fs)) (hdd : d2 < d ∧ d ≤ 9) (hrm : (S.map fun v => v.category).sum ≤ 8) (hf : cc + mc2 ≤ mc ∧ zz + ms2 ≤ ms) (kk : ∀ r h2, Q2 r h2 → V G mX2_makeExchange (d, mc, ms, cc + mc2, zz + ms2) 7 L (r.toList ++ S) h2 Q) : V G mX2_makeExchange (d, mc, ms, cc, zz) 4 L (a1 :: a0 :: .ref (k + 2) :: S) h Q := V_callV (ci := 2) (T := TX2) (N := 14) hM dX2_makeExchange_4 ⟨km_X2_103, ki_X2_countBehindExchange, ks_X2_countBehindExchange⟩ cw_X2_countBehindExchange rfl hc (by decide) hdd rfl rfl hrm hf kk
theorem cX2_makeExchange_13 {G : gx} {d mc ms cc zz d2 mc2 ms2 : Nat} {L : List (Option Value)} {S : List Value} {h : ah} {Q Q2 : Option Value → ah → Prop} {k : Nat} {fs : List Value} {a0 a1 : Value} (hM : Ct G mX2_swapLeads d2 mc2 ms2 (.ref (k + 2) :: [a0, a1]) h Q2) (hc : h (k + 2) = (2, .inl fs)) (hdd : d2 < d ∧ d ≤ 9) (hrm : (S.map fun v => v.category).sum ≤ 8) (hf : cc + mc2 ≤ mc ∧ zz + ms2 ≤ ms) (kk : ∀ r h2, Q2 r h2 → V G mX2_makeExchange (d, mc, ms, cc + mc2, zz + ms2) 16 L (r.toList ++ S) h2 Q) : V G mX2_makeExchange (d, mc, ms, cc, zz) 13 L (a1 :: a0 :: .ref (k + 2) :: S) h Q := V_callV (ci := 2) (T := TX2) (N := 14) hM dX2_makeExchange_13 ⟨km_X2_107, ki_X2_swapLeads, ks_X2_swapLeads⟩ cw_X2_swapLeads rfl hc (by decide) hdd rfl rfl hrm hf kk
theorem cX2_makeExchange_19 {G : gx} {d mc ms cc zz d2 mc2 ms2 : Nat} {L : List (Option Value)} {S : List Value} {h : ah} {Q Q2 : Option Value → ah → Prop} {k : Nat} {fs : List Value} {a0 a1 : Value} (hM : Ct G mX2_noteExchange d2 mc2 ms2 (.ref (k + 2) :: [a0, a1]) h Q2) (hc : h (k + 2) = (2, .inl fs)) (hdd : d2 < d ∧ d ≤ 9) (hrm : (S.map fun v => v.category).sum ≤ 8) (hf : cc + mc2 ≤ mc ∧ zz + ms2 ≤ ms) (kk : ∀ r h2, Q2 r h2 → V G mX2_makeExchange (d, mc, ms, cc + mc2, zz + ms2) 22 L (r.toList ++ S) h2 Q) : V G mX2_makeExchange (d, mc, ms, cc, zz) 19 L (a1 :: a0 :: .ref (k + 2) :: S) h Q := V_callV (ci := 2) (T := TX2) (N := 14) hM dX2_makeExchange_19 ⟨km_X2_110, ki_X2_noteExchange, ks_X2_noteExchange⟩ cw_X2_noteExchange rfl hc (by decide) hdd rfl rfl hrm hf kk
theorem tX2_takeBack_0 {G : gx} {b : bg} {h : ah} {Q : Option Value → ah → Prop} {raddend : Int32} {rexchanges : Int32} {rleadsStand : Int32} {rnumbersStand : Int32} {rcycleCount : Int32} {rcountStands : Int32} {rones : Nat → Int32} {roth : Nat → Int32} (g9 : h 9 = (2, .inl [.ref 3, .ref 10, .int raddend, .ref 11, .ref 12, .int rexchanges, .ref 13, .int rleadsStand, .ref 14, .ref 15, .int rnumbersStand, .int rcycleCount, .int rcountStands, .ref 16])) (g11 : h 11 = (0, .inr (400, .inl rones))) (g12 : h 12 = (0, .inr (400, .inl roth))) (q1 : vp_in (rexchanges - (1 : Int32)) 400) (q2 : vp_in (rexchanges - (1 : Int32)) 400) (q3 : V G mX2_takeBack b 30 [some (.ref 9)] [.int (roth (rexchanges - (1 : Int32)).toNatClampNeg), .int (rones (rexchanges - (1 : Int32)).toNatClampNeg), .ref 9, .ref 9] (va_up h 9 (2, .inl [.ref 3, .ref 10, .int raddend, .ref 11, .ref 12, .int (rexchanges - (1 : Int32)), .ref 13, .int rleadsStand, .ref 14, .ref 15, .int rnumbersStand, .int rcycleCount, .int rcountStands, .ref 16])) Q) : V G mX2_takeBack b 0 [some (.ref 9)] [] h Q := by
  refine V_aload_n dX2_takeBack_0 rfl rfl ?_
  refine V_dup dX2_takeBack_1 rfl ?_
  refine V_get (ci := 2) (j := 5) (C0 := RX2) (T := TX2) (N := 14) dX2_takeBack_2 rfl g9 (by decide) (by decide) kf_X2_53 rfl ?_
  refine V_iconst dX2_takeBack_5 ic_1 ?_
  refine V_isub dX2_takeBack_6 ?_
  refine V_put (ci := 2) (j := 5) (C0 := RX2) (T := TX2) (N := 14) (ty := .int) dX2_takeBack_7 rfl g9 (by decide) (by decide) kf_X2_53 rfl (by decide +kernel) rfl rfl (Nat.le_of_ble_eq_true rfl) ?_
  refine V_aload_n dX2_takeBack_10 rfl rfl ?_
  refine V_aload_n dX2_takeBack_11 rfl rfl ?_
  refine V_aload_n dX2_takeBack_12 rfl rfl ?_
  refine V_get (ci := 2) (j := 3) (C0 := RX2) (T := TX2) (N := 14) dX2_takeBack_13 rfl rfl (by decide) (by decide) kf_X2_15 rfl ?_
  refine V_aload_n dX2_takeBack_16 rfl rfl ?_
  refine V_get (ci := 2) (j := 5) (C0 := RX2) (T := TX2) (N := 14) dX2_takeBack_17 rfl rfl (by decide) (by decide) kf_X2_53 rfl ?_
  refine V_iald dX2_takeBack_20 g11 (q1) ?_
  refine V_aload_n dX2_takeBack_21 rfl rfl ?_
  refine V_get (ci := 2) (j := 4) (C0 := RX2) (T := TX2) (N := 14) dX2_takeBack_22 rfl rfl (by decide) (by decide) kf_X2_18 rfl ?_
  refine V_aload_n dX2_takeBack_25 rfl rfl ?_
  refine V_get (ci := 2) (j := 5) (C0 := RX2) (T := TX2) (N := 14) dX2_takeBack_26 rfl rfl (by decide) (by decide) kf_X2_53 rfl ?_
  refine V_iald dX2_takeBack_29 g12 (q2) ?_
  exact V_sub (by exact (And.intro rfl True.intro)) (q3)
theorem tX2_takeBack_33 {G : gx} {b : bg} {h : ah} {Q : Option Value → ah → Prop} {s0 : Int32} {raddend : Int32} {rexchanges : Int32} {rleadsStand : Int32} {rnumbersStand : Int32} {rcycleCount : Int32} {rcountStands : Int32} {rones : Nat → Int32} {roth : Nat → Int32} (g9 : h 9 = (2, .inl [.ref 3, .ref 10, .int raddend, .ref 11, .ref 12, .int rexchanges, .ref 13, .int rleadsStand, .ref 14, .ref 15, .int rnumbersStand, .int rcycleCount, .int rcountStands, .ref 16])) (g11 : h 11 = (0, .inr (400, .inl rones))) (g12 : h 12 = (0, .inr (400, .inl roth))) (q1 : vp_in rexchanges 400) (q2 : vp_in rexchanges 400) (q3 : V G mX2_takeBack b 55 [some (.ref 9)] [.int (roth rexchanges.toNatClampNeg), .int (rones rexchanges.toNatClampNeg), .ref 9] (va_up h 9 (2, .inl [.ref 3, .ref 10, .int raddend, .ref 11, .ref 12, .int rexchanges, .ref 13, .int rleadsStand, .ref 14, .ref 15, .int rnumbersStand, .int s0, .int rcountStands, .ref 16])) Q) : V G mX2_takeBack b 33 [some (.ref 9)] [.int s0, .ref 9] h Q := by
  refine V_put (ci := 2) (j := 11) (C0 := RX2) (T := TX2) (N := 14) (ty := .int) dX2_takeBack_33 rfl g9 (by decide) (by decide) kf_X2_93 rfl (by decide +kernel) rfl rfl (Nat.le_of_ble_eq_true rfl) ?_
  refine V_aload_n dX2_takeBack_36 rfl rfl ?_
  refine V_aload_n dX2_takeBack_37 rfl rfl ?_
  refine V_get (ci := 2) (j := 3) (C0 := RX2) (T := TX2) (N := 14) dX2_takeBack_38 rfl rfl (by decide) (by decide) kf_X2_15 rfl ?_
  refine V_aload_n dX2_takeBack_41 rfl rfl ?_
  refine V_get (ci := 2) (j := 5) (C0 := RX2) (T := TX2) (N := 14) dX2_takeBack_42 rfl rfl (by decide) (by decide) kf_X2_53 rfl ?_
  refine V_iald dX2_takeBack_45 g11 (q1) ?_
  refine V_aload_n dX2_takeBack_46 rfl rfl ?_
  refine V_get (ci := 2) (j := 4) (C0 := RX2) (T := TX2) (N := 14) dX2_takeBack_47 rfl rfl (by decide) (by decide) kf_X2_18 rfl ?_
  refine V_aload_n dX2_takeBack_50 rfl rfl ?_
  refine V_get (ci := 2) (j := 5) (C0 := RX2) (T := TX2) (N := 14) dX2_takeBack_51 rfl rfl (by decide) (by decide) kf_X2_53 rfl ?_
  refine V_iald dX2_takeBack_54 g12 (q2) ?_
  exact V_sub (by exact (And.intro rfl True.intro)) (q3)
theorem tX2_takeBack_58 {G : gx} {b : bg} {h : ah} {Q : Option Value → ah → Prop} {raddend : Int32} {rexchanges : Int32} {rleadsStand : Int32} {rnumbersStand : Int32} {rcycleCount : Int32} {rcountStands : Int32} (g9 : h 9 = (2, .inl [.ref 3, .ref 10, .int raddend, .ref 11, .ref 12, .int rexchanges, .ref 13, .int rleadsStand, .ref 14, .ref 15, .int rnumbersStand, .int rcycleCount, .int rcountStands, .ref 16])) (q1 : Q (some (.int rexchanges)) h) : V G mX2_takeBack b 58 [some (.ref 9)] [] h Q := by
  refine V_aload_n dX2_takeBack_58 rfl rfl ?_
  refine V_get (ci := 2) (j := 5) (C0 := RX2) (T := TX2) (N := 14) dX2_takeBack_59 rfl g9 (by decide) (by decide) kf_X2_53 rfl ?_
  exact V_iret dX2_takeBack_62 rfl (q1)
theorem cX2_takeBack_30 {G : gx} {d mc ms cc zz d2 mc2 ms2 : Nat} {L : List (Option Value)} {S : List Value} {h : ah} {Q Q2 : Option Value → ah → Prop} {k : Nat} {fs : List Value} {a0 a1 : Value} (hM : Ct G mX2_countBehindExchange d2 mc2 ms2 (.ref (k + 2) :: [a0, a1]) h Q2) (hc : h (k + 2) = (2, .inl fs)) (hdd : d2 < d ∧ d ≤ 9) (hrm : (S.map fun v => v.category).sum ≤ 8) (hf : cc + mc2 ≤ mc ∧ zz + ms2 ≤ ms) (kk : ∀ r h2, Q2 r h2 → V G mX2_takeBack (d, mc, ms, cc + mc2, zz + ms2) 33 L (r.toList ++ S) h2 Q) : V G mX2_takeBack (d, mc, ms, cc, zz) 30 L (a1 :: a0 :: .ref (k + 2) :: S) h Q := V_callV (ci := 2) (T := TX2) (N := 14) hM dX2_takeBack_30 ⟨km_X2_103, ki_X2_countBehindExchange, ks_X2_countBehindExchange⟩ cw_X2_countBehindExchange rfl hc (by decide) hdd rfl rfl hrm hf kk
theorem cX2_takeBack_55 {G : gx} {d mc ms cc zz d2 mc2 ms2 : Nat} {L : List (Option Value)} {S : List Value} {h : ah} {Q Q2 : Option Value → ah → Prop} {k : Nat} {fs : List Value} {a0 a1 : Value} (hM : Ct G mX2_swapLeads d2 mc2 ms2 (.ref (k + 2) :: [a0, a1]) h Q2) (hc : h (k + 2) = (2, .inl fs)) (hdd : d2 < d ∧ d ≤ 9) (hrm : (S.map fun v => v.category).sum ≤ 8) (hf : cc + mc2 ≤ mc ∧ zz + ms2 ≤ ms) (kk : ∀ r h2, Q2 r h2 → V G mX2_takeBack (d, mc, ms, cc + mc2, zz + ms2) 58 L (r.toList ++ S) h2 Q) : V G mX2_takeBack (d, mc, ms, cc, zz) 55 L (a1 :: a0 :: .ref (k + 2) :: S) h Q := V_callV (ci := 2) (T := TX2) (N := 14) hM dX2_takeBack_55 ⟨km_X2_107, ki_X2_swapLeads, ks_X2_swapLeads⟩ cw_X2_swapLeads rfl hc (by decide) hdd rfl rfl hrm hf kk
theorem tX2_noteExchange_0 {G : gx} {b : bg} {h : ah} {Q : Option Value → ah → Prop} {x1 : Int32} {x2 : Int32} {raddend : Int32} {rexchanges : Int32} {rleadsStand : Int32} {rnumbersStand : Int32} {rcycleCount : Int32} {rcountStands : Int32} {rones : Nat → Int32} {roth : Nat → Int32} (g9 : h 9 = (2, .inl [.ref 3, .ref 10, .int raddend, .ref 11, .ref 12, .int rexchanges, .ref 13, .int rleadsStand, .ref 14, .ref 15, .int rnumbersStand, .int rcycleCount, .int rcountStands, .ref 16])) (g11 : h 11 = (0, .inr (400, .inl rones))) (g12 : h 12 = (0, .inr (400, .inl roth))) (q1 : vp_in rexchanges 400) (q2 : vp_in rexchanges 400) (q3 : Q none (va_up (va_up (va_up h 11 (0, .inr (400, .inl (upd rones rexchanges.toNatClampNeg x1)))) 12 (0, .inr (400, .inl (upd roth rexchanges.toNatClampNeg x2)))) 9 (2, .inl [.ref 3, .ref 10, .int raddend, .ref 11, .ref 12, .int (rexchanges + (1 : Int32)), .ref 13, .int rleadsStand, .ref 14, .ref 15, .int rnumbersStand, .int rcycleCount, .int rcountStands, .ref 16]))) : V G mX2_noteExchange b 0 [some (.ref 9), some (.int x1), some (.int x2)] [] h Q := by
  refine V_aload_n dX2_noteExchange_0 rfl rfl ?_
  refine V_get (ci := 2) (j := 3) (C0 := RX2) (T := TX2) (N := 14) dX2_noteExchange_1 rfl g9 (by decide) (by decide) kf_X2_15 rfl ?_
  refine V_aload_n dX2_noteExchange_4 rfl rfl ?_
  refine V_get (ci := 2) (j := 5) (C0 := RX2) (T := TX2) (N := 14) dX2_noteExchange_5 rfl g9 (by decide) (by decide) kf_X2_53 rfl ?_
  refine V_iload_n dX2_noteExchange_8 rfl rfl ?_
  refine V_iast dX2_noteExchange_9 g11 (q1) ?_
  refine V_aload_n dX2_noteExchange_10 rfl rfl ?_
  refine V_get (ci := 2) (j := 4) (C0 := RX2) (T := TX2) (N := 14) dX2_noteExchange_11 rfl g9 (by decide) (by decide) kf_X2_18 rfl ?_
  refine V_aload_n dX2_noteExchange_14 rfl rfl ?_
  refine V_get (ci := 2) (j := 5) (C0 := RX2) (T := TX2) (N := 14) dX2_noteExchange_15 rfl g9 (by decide) (by decide) kf_X2_53 rfl ?_
  refine V_iload_n dX2_noteExchange_18 rfl rfl ?_
  refine V_iast dX2_noteExchange_19 g12 (q2) ?_
  refine V_aload_n dX2_noteExchange_20 rfl rfl ?_
  refine V_dup dX2_noteExchange_21 rfl ?_
  refine V_get (ci := 2) (j := 5) (C0 := RX2) (T := TX2) (N := 14) dX2_noteExchange_22 rfl g9 (by decide) (by decide) kf_X2_53 rfl ?_
  refine V_iconst dX2_noteExchange_25 ic_1 ?_
  refine V_iadd dX2_noteExchange_26 ?_
  refine V_put (ci := 2) (j := 5) (C0 := RX2) (T := TX2) (N := 14) (ty := .int) dX2_noteExchange_27 rfl g9 (by decide) (by decide) kf_X2_53 rfl (by decide +kernel) rfl rfl (Nat.le_of_ble_eq_true rfl) ?_
  exact V_vret dX2_noteExchange_30 rfl (q3)
theorem tX2_swapLeads_0 {G : gx} {b : bg} {h : ah} {Q : Option Value → ah → Prop} {x1 : Int32} {x2 : Int32} {raddend : Int32} {rexchanges : Int32} {rleadsStand : Int32} {rnumbersStand : Int32} {rcycleCount : Int32} {rcountStands : Int32} {rlead : Nat → Int32} (g9 : h 9 = (2, .inl [.ref 3, .ref 10, .int raddend, .ref 11, .ref 12, .int rexchanges, .ref 13, .int rleadsStand, .ref 14, .ref 15, .int rnumbersStand, .int rcycleCount, .int rcountStands, .ref 16])) (g13 : h 13 = (0, .inr (20000, .inl rlead))) (q1 : vp_in x1 20000) (q2 : vp_in x2 20000) (q3 : vp_in x1 20000) (q4 : vp_in x2 20000) (q5 : Q none (va_up (va_up (va_up h 13 (0, .inr (20000, .inl (upd rlead x1.toNatClampNeg (rlead x2.toNatClampNeg))))) 13 (0, .inr (20000, .inl (upd (upd rlead x1.toNatClampNeg (rlead x2.toNatClampNeg)) x2.toNatClampNeg (rlead x1.toNatClampNeg))))) 9 (2, .inl [.ref 3, .ref 10, .int raddend, .ref 11, .ref 12, .int rexchanges, .ref 13, .int rleadsStand, .ref 14, .ref 15, .int (0 : Int32), .int rcycleCount, .int rcountStands, .ref 16]))) : V G mX2_swapLeads b 0 [some (.ref 9), some (.int x1), some (.int x2)] [] h Q := by
  refine V_aload_n dX2_swapLeads_0 rfl rfl ?_
  refine V_get (ci := 2) (j := 6) (C0 := RX2) (T := TX2) (N := 14) dX2_swapLeads_1 rfl g9 (by decide) (by decide) kf_X2_21 rfl ?_
  refine V_iload_n dX2_swapLeads_4 rfl rfl ?_
  refine V_iald dX2_swapLeads_5 g13 (q1) ?_
  refine V_istore_n dX2_swapLeads_6 rfl (Nat.le_of_ble_eq_true rfl) ?_
  refine V_aload_n dX2_swapLeads_7 rfl rfl ?_
  refine V_get (ci := 2) (j := 6) (C0 := RX2) (T := TX2) (N := 14) dX2_swapLeads_8 rfl g9 (by decide) (by decide) kf_X2_21 rfl ?_
  refine V_iload_n dX2_swapLeads_11 rfl rfl ?_
  refine V_aload_n dX2_swapLeads_12 rfl rfl ?_
  refine V_get (ci := 2) (j := 6) (C0 := RX2) (T := TX2) (N := 14) dX2_swapLeads_13 rfl g9 (by decide) (by decide) kf_X2_21 rfl ?_
  refine V_iload_n dX2_swapLeads_16 rfl rfl ?_
  refine V_iald dX2_swapLeads_17 g13 (q2) ?_
  refine V_iast dX2_swapLeads_18 g13 (q3) ?_
  refine V_aload_n dX2_swapLeads_19 rfl rfl ?_
  refine V_get (ci := 2) (j := 6) (C0 := RX2) (T := TX2) (N := 14) dX2_swapLeads_20 rfl g9 (by decide) (by decide) kf_X2_21 rfl ?_
  refine V_iload_n dX2_swapLeads_23 rfl rfl ?_
  refine V_iload_n dX2_swapLeads_24 rfl rfl ?_
  refine V_iast dX2_swapLeads_25 rfl (q4) ?_
  refine V_aload_n dX2_swapLeads_26 rfl rfl ?_
  refine V_iconst dX2_swapLeads_27 ic_0 ?_
  refine V_put (ci := 2) (j := 10) (C0 := RX2) (T := TX2) (N := 14) (ty := .boolean) dX2_swapLeads_28 rfl g9 (by decide) (by decide) kf_X2_60 rfl (by decide +kernel) rfl rfl (Nat.le_of_ble_eq_true rfl) ?_
  exact V_vret dX2_swapLeads_31 rfl (q5)
theorem tX2_countBehindExchange_0 {G : gx} {b : bg} {h : ah} {Q : Option Value → ah → Prop} {x1 : Int32} {x2 : Int32} (q1 : V G mX2_countBehindExchange b 1 [some (.ref 9), some (.int x1), some (.int x2)] [.ref 9] h Q) : V G mX2_countBehindExchange b 0 [some (.ref 9), some (.int x1), some (.int x2)] [] h Q := by
  refine V_aload_n dX2_countBehindExchange_0 rfl rfl ?_
  exact V_sub (by exact (And.intro rfl (And.intro rfl (And.intro rfl True.intro)))) (q1)
theorem tX2_countBehindExchange_4 {G : gx} {b : bg} {h : ah} {Q : Option Value → ah → Prop} {x1 : Int32} {x2 : Int32} {s0 : Int32} (q1 : V G mX2_countBehindExchange b 8 [some (.ref 9), some (.int x1), some (.int x2), some (.int s0)] [.int x2, .int x1, .ref 9] h Q) : V G mX2_countBehindExchange b 4 [some (.ref 9), some (.int x1), some (.int x2)] [.int s0] h Q := by
  refine V_istore_n dX2_countBehindExchange_4 rfl (Nat.le_of_ble_eq_true rfl) ?_
  refine V_aload_n dX2_countBehindExchange_5 rfl rfl ?_
  refine V_iload_n dX2_countBehindExchange_6 rfl rfl ?_
  refine V_iload_n dX2_countBehindExchange_7 rfl rfl ?_
  exact V_sub (by exact (And.intro rfl (And.intro rfl (And.intro rfl (And.intro rfl True.intro))))) (q1)
theorem tX2_countBehindExchange_11 {G : gx} {b : bg} {h : ah} {Q : Option Value → ah → Prop} {x1 : Int32} {x2 : Int32} {x3 : Int32} {s0 : Int32} (q1 : (s0 = (0 : Int32)) → Q (some (.int (x3 - (1 : Int32)))) h) (q2 : (¬ s0 = (0 : Int32)) → Q (some (.int (x3 + (1 : Int32)))) h) : V G mX2_countBehindExchange b 11 [some (.ref 9), some (.int x1), some (.int x2), some (.int x3)] [.int s0] h Q := by
  refine V_if_eq (t := 20) dX2_countBehindExchange_11 (by decide) (fun z1 => ?_) (fun z1 => ?_)
  ·
    refine V_iload_n dX2_countBehindExchange_20 rfl rfl ?_
    refine V_iconst dX2_countBehindExchange_21 ic_1 ?_
    refine V_isub dX2_countBehindExchange_22 ?_
    exact V_iret dX2_countBehindExchange_23 rfl (q1 z1)
  ·
    refine V_iload_n dX2_countBehindExchange_14 rfl rfl ?_
    refine V_iconst dX2_countBehindExchange_15 ic_1 ?_
    refine V_iadd dX2_countBehindExchange_16 ?_
    refine V_goto (t := 23) dX2_countBehindExchange_17 (by decide) ?_
    exact V_iret dX2_countBehindExchange_23 rfl (q2 z1)
theorem cX2_countBehindExchange_1 {G : gx} {d mc ms cc zz d2 mc2 ms2 : Nat} {L : List (Option Value)} {S : List Value} {h : ah} {Q Q2 : Option Value → ah → Prop} {k : Nat} {fs : List Value} (hM : Ct G mX2_howManyCycles d2 mc2 ms2 (.ref (k + 2) :: []) h Q2) (hc : h (k + 2) = (2, .inl fs)) (hdd : d2 < d ∧ d ≤ 9) (hrm : (S.map fun v => v.category).sum ≤ 8) (hf : cc + mc2 ≤ mc ∧ zz + ms2 ≤ ms) (kk : ∀ r h2, Q2 r h2 → V G mX2_countBehindExchange (d, mc, ms, cc + mc2, zz + ms2) 4 L (r.toList ++ S) h2 Q) : V G mX2_countBehindExchange (d, mc, ms, cc, zz) 1 L (.ref (k + 2) :: S) h Q := V_callV (ci := 2) (T := TX2) (N := 14) hM dX2_countBehindExchange_1 ⟨km_X2_113, ki_X2_howManyCycles, ks_X2_howManyCycles⟩ cw_X2_howManyCycles rfl hc (by decide) hdd rfl rfl hrm hf kk
theorem cX2_countBehindExchange_8 {G : gx} {d mc ms cc zz d2 mc2 ms2 : Nat} {L : List (Option Value)} {S : List Value} {h : ah} {Q Q2 : Option Value → ah → Prop} {k : Nat} {fs : List Value} {a0 a1 : Value} (hM : Ct G mX2_inOneCycle d2 mc2 ms2 (.ref (k + 2) :: [a0, a1]) h Q2) (hc : h (k + 2) = (2, .inl fs)) (hdd : d2 < d ∧ d ≤ 9) (hrm : (S.map fun v => v.category).sum ≤ 8) (hf : cc + mc2 ≤ mc ∧ zz + ms2 ≤ ms) (kk : ∀ r h2, Q2 r h2 → V G mX2_countBehindExchange (d, mc, ms, cc + mc2, zz + ms2) 11 L (r.toList ++ S) h2 Q) : V G mX2_countBehindExchange (d, mc, ms, cc, zz) 8 L (a1 :: a0 :: .ref (k + 2) :: S) h Q := V_callV (ci := 2) (T := TX2) (N := 14) hM dX2_countBehindExchange_8 ⟨km_X2_117, ki_X2_inOneCycle, ks_X2_inOneCycle⟩ cw_X2_inOneCycle rfl hc (by decide) hdd rfl rfl hrm hf kk
theorem tX2_inOneCycle_0 {G : gx} {b : bg} {h : ah} {Q : Option Value → ah → Prop} {x1 : Int32} {x2 : Int32} {raddend : Int32} {rexchanges : Int32} {rleadsStand : Int32} {rnumbersStand : Int32} {rcycleCount : Int32} {rcountStands : Int32} {rlead : Nat → Int32} {rnum : Nat → Int32} (g9 : h 9 = (2, .inl [.ref 3, .ref 10, .int raddend, .ref 11, .ref 12, .int rexchanges, .ref 13, .int rleadsStand, .ref 14, .ref 15, .int rnumbersStand, .int rcycleCount, .int rcountStands, .ref 16])) (g13 : h 13 = (0, .inr (20000, .inl rlead))) (g14 : h 14 = (0, .inr (20000, .inl rnum))) (q1 : (rnumbersStand = (0 : Int32)) → vp_in x1 20000) (q2 : (rnumbersStand = (0 : Int32)) → V G mX2_inOneCycle b 38 [some (.ref 9), some (.int x1), some (.int x2), some (.int (rlead x1.toNatClampNeg)), some (.int (0 : Int32))] [] h Q) (q3 : (¬ rnumbersStand = (0 : Int32)) → vp_in x1 20000) (q4 : (¬ rnumbersStand = (0 : Int32)) → vp_in x2 20000) (q5 : (¬ rnumbersStand = (0 : Int32)) → (¬ (rnum x1.toNatClampNeg) = (rnum x2.toNatClampNeg)) → Q (some (.int (0 : Int32))) h) (q6 : (¬ rnumbersStand = (0 : Int32)) → ((rnum x1.toNatClampNeg) = (rnum x2.toNatClampNeg)) → Q (some (.int (1 : Int32))) h) : V G mX2_inOneCycle b 0 [some (.ref 9), some (.int x1), some (.int x2)] [] h Q := by
  refine V_aload_n dX2_inOneCycle_0 rfl rfl ?_
  refine V_get (ci := 2) (j := 10) (C0 := RX2) (T := TX2) (N := 14) dX2_inOneCycle_1 rfl g9 (by decide) (by decide) kf_X2_60 rfl ?_
  refine V_if_eq (t := 28) dX2_inOneCycle_4 (by decide) (fun z1 => ?_) (fun z1 => ?_)
  ·
    refine V_aload_n dX2_inOneCycle_28 rfl rfl ?_
    refine V_get (ci := 2) (j := 6) (C0 := RX2) (T := TX2) (N := 14) dX2_inOneCycle_29 rfl g9 (by decide) (by decide) kf_X2_21 rfl ?_
    refine V_iload_n dX2_inOneCycle_32 rfl rfl ?_
    refine V_iald dX2_inOneCycle_33 g13 (q1 z1) ?_
    refine V_istore_n dX2_inOneCycle_34 rfl (Nat.le_of_ble_eq_true rfl) ?_
    refine V_iconst dX2_inOneCycle_35 ic_0 ?_
    refine V_istore dX2_inOneCycle_36 (Nat.le_of_ble_eq_true rfl) ?_
    exact V_sub (by exact (And.intro rfl (And.intro rfl (And.intro rfl (And.intro rfl (And.intro rfl True.intro)))))) (q2 z1)
  ·
    refine V_aload_n dX2_inOneCycle_7 rfl rfl ?_
    refine V_get (ci := 2) (j := 8) (C0 := RX2) (T := TX2) (N := 14) dX2_inOneCycle_8 rfl g9 (by decide) (by decide) kf_X2_24 rfl ?_
    refine V_iload_n dX2_inOneCycle_11 rfl rfl ?_
    refine V_iald dX2_inOneCycle_12 g14 (q3 z1) ?_
    refine V_aload_n dX2_inOneCycle_13 rfl rfl ?_
    refine V_get (ci := 2) (j := 8) (C0 := RX2) (T := TX2) (N := 14) dX2_inOneCycle_14 rfl g9 (by decide) (by decide) kf_X2_24 rfl ?_
    refine V_iload_n dX2_inOneCycle_17 rfl rfl ?_
    refine V_iald dX2_inOneCycle_18 g14 (q4 z1) ?_
    refine V_icmp_ne (t := 26) dX2_inOneCycle_19 (by decide) (fun z2 => ?_) (fun z2 => ?_)
    ·
      refine V_iconst dX2_inOneCycle_26 ic_0 ?_
      exact V_zret dX2_inOneCycle_27 rfl rfl (q5 z1 z2)
    ·
      refine V_iconst dX2_inOneCycle_22 ic_1 ?_
      refine V_goto (t := 27) dX2_inOneCycle_23 (by decide) ?_
      exact V_zret dX2_inOneCycle_27 rfl rfl (q6 z1 z2)
theorem tX2_inOneCycle_38 {G : gx} {b : bg} {h : ah} {Q : Option Value → ah → Prop} {x1 : Int32} {x2 : Int32} {x3 : Int32} {x4 : Int32} {raddend : Int32} {rexchanges : Int32} {rleadsStand : Int32} {rnumbersStand : Int32} {rcycleCount : Int32} {rcountStands : Int32} {wletters : Int32} {wlength : Int32} {wall : Int32} {whigh : Int32} {rlead : Nat → Int32} (g9 : h 9 = (2, .inl [.ref 3, .ref 10, .int raddend, .ref 11, .ref 12, .int rexchanges, .ref 13, .int rleadsStand, .ref 14, .ref 15, .int rnumbersStand, .int rcycleCount, .int rcountStands, .ref 16])) (g3 : h 3 = (6, .inl [.ref 4, .int wletters, .int wlength, .int wall, .int whigh])) (g13 : h 13 = (0, .inr (20000, .inl rlead))) (q1 : (wall ≤ x4) → (¬ x3 = x2) → Q (some (.int (0 : Int32))) h) (q2 : (wall ≤ x4) → (x3 = x2) → Q (some (.int (1 : Int32))) h) (q3 : (¬ wall ≤ x4) → (x3 = x1) → (¬ x3 = x2) → Q (some (.int (0 : Int32))) h) (q4 : (¬ wall ≤ x4) → (x3 = x1) → (x3 = x2) → Q (some (.int (1 : Int32))) h) (q5 : (¬ wall ≤ x4) → (¬ x3 = x1) → (x3 = x2) → (¬ x3 = x2) → Q (some (.int (0 : Int32))) h) (q6 : (¬ wall ≤ x4) → (¬ x3 = x1) → (x3 = x2) → (x3 = x2) → Q (some (.int (1 : Int32))) h) (q7 : (¬ wall ≤ x4) → (¬ x3 = x1) → (¬ x3 = x2) → vp_in x3 20000) (q8 : (¬ wall ≤ x4) → (¬ x3 = x1) → (¬ x3 = x2) → V G mX2_inOneCycle b 38 [some (.ref 9), some (.int x1), some (.int x2), some (.int (rlead x3.toNatClampNeg)), some (.int (x4 + (1 : Int32)))] [] h Q) : V G mX2_inOneCycle b 38 [some (.ref 9), some (.int x1), some (.int x2), some (.int x3), some (.int x4)] [] h Q := by
  refine V_iload dX2_inOneCycle_38 rfl ?_
  refine V_aload_n dX2_inOneCycle_40 rfl rfl ?_
  refine V_get (ci := 2) (j := 0) (C0 := RX2) (T := TX2) (N := 14) dX2_inOneCycle_41 rfl g9 (by decide) (by decide) kf_X2_33 rfl ?_
  refine V_getN (ci := 6) (j := 3) (C0 := RX6) (T := TX6) (N := 5) dX2_inOneCycle_44 rfl g3 (by decide) (by decide) kf_X2_78 rfl ?_
  refine V_icmp_ge (t := 73) dX2_inOneCycle_47 (by decide) (fun z1 => ?_) (fun z1 => ?_)
  ·
    refine V_iload_n dX2_inOneCycle_73 rfl rfl ?_
    refine V_iload_n dX2_inOneCycle_74 rfl rfl ?_
    refine V_icmp_ne (t := 82) dX2_inOneCycle_75 (by decide) (fun z2 => ?_) (fun z2 => ?_)
    ·
      refine V_iconst dX2_inOneCycle_82 ic_0 ?_
      exact V_zret dX2_inOneCycle_83 rfl rfl (q1 z1 z2)
    ·
      refine V_iconst dX2_inOneCycle_78 ic_1 ?_
      refine V_goto (t := 83) dX2_inOneCycle_79 (by decide) ?_
      exact V_zret dX2_inOneCycle_83 rfl rfl (q2 z1 z2)
  ·
    refine V_iload_n dX2_inOneCycle_50 rfl rfl ?_
    refine V_iload_n dX2_inOneCycle_51 rfl rfl ?_
    refine V_icmp_eq (t := 73) dX2_inOneCycle_52 (by decide) (fun z3 => ?_) (fun z3 => ?_)
    ·
      refine V_iload_n dX2_inOneCycle_73 rfl rfl ?_
      refine V_iload_n dX2_inOneCycle_74 rfl rfl ?_
      refine V_icmp_ne (t := 82) dX2_inOneCycle_75 (by decide) (fun z4 => ?_) (fun z4 => ?_)
      ·
        refine V_iconst dX2_inOneCycle_82 ic_0 ?_
        exact V_zret dX2_inOneCycle_83 rfl rfl (q3 z1 z3 z4)
      ·
        refine V_iconst dX2_inOneCycle_78 ic_1 ?_
        refine V_goto (t := 83) dX2_inOneCycle_79 (by decide) ?_
        exact V_zret dX2_inOneCycle_83 rfl rfl (q4 z1 z3 z4)
    ·
      refine V_iload_n dX2_inOneCycle_55 rfl rfl ?_
      refine V_iload_n dX2_inOneCycle_56 rfl rfl ?_
      refine V_icmp_eq (t := 73) dX2_inOneCycle_57 (by decide) (fun z5 => ?_) (fun z5 => ?_)
      ·
        refine V_iload_n dX2_inOneCycle_73 rfl rfl ?_
        refine V_iload_n dX2_inOneCycle_74 rfl rfl ?_
        refine V_icmp_ne (t := 82) dX2_inOneCycle_75 (by decide) (fun z6 => ?_) (fun z6 => ?_)
        ·
          refine V_iconst dX2_inOneCycle_82 ic_0 ?_
          exact V_zret dX2_inOneCycle_83 rfl rfl (q5 z1 z3 z5 z6)
        ·
          refine V_iconst dX2_inOneCycle_78 ic_1 ?_
          refine V_goto (t := 83) dX2_inOneCycle_79 (by decide) ?_
          exact V_zret dX2_inOneCycle_83 rfl rfl (q6 z1 z3 z5 z6)
      ·
        refine V_aload_n dX2_inOneCycle_60 rfl rfl ?_
        refine V_get (ci := 2) (j := 6) (C0 := RX2) (T := TX2) (N := 14) dX2_inOneCycle_61 rfl g9 (by decide) (by decide) kf_X2_21 rfl ?_
        refine V_iload_n dX2_inOneCycle_64 rfl rfl ?_
        refine V_iald dX2_inOneCycle_65 g13 (q7 z1 z3 z5) ?_
        refine V_istore_n dX2_inOneCycle_66 rfl (Nat.le_of_ble_eq_true rfl) ?_
        refine V_inc dX2_inOneCycle_67 ic_1 rfl (Nat.le_of_ble_eq_true rfl) ?_
        refine V_goto (t := 38) dX2_inOneCycle_70 (by decide) ?_
        exact V_sub (by exact (And.intro rfl (And.intro rfl (And.intro rfl (And.intro rfl (And.intro rfl True.intro)))))) (q8 z1 z3 z5)
theorem tX2_joinCycles_0 {G : gx} {b : bg} {h : ah} {Q : Option Value → ah → Prop} (q1 : V G mX2_joinCycles b 1 [some (.ref 9)] [.ref 9] h Q) : V G mX2_joinCycles b 0 [some (.ref 9)] [] h Q := by
  refine V_aload_n dX2_joinCycles_0 rfl rfl ?_
  exact V_sub (by exact (And.intro rfl True.intro)) (q1)
theorem tX2_joinCycles_28 {G : gx} {b : bg} {h : ah} {Q : Option Value → ah → Prop} {x1 : Int32} {x2 : Int32} {raddend : Int32} {rexchanges : Int32} {rleadsStand : Int32} {rnumbersStand : Int32} {rcycleCount : Int32} {rcountStands : Int32} {rjoin : Nat → Int32} (g9 : h 9 = (2, .inl [.ref 3, .ref 10, .int raddend, .ref 11, .ref 12, .int rexchanges, .ref 13, .int rleadsStand, .ref 14, .ref 15, .int rnumbersStand, .int rcycleCount, .int rcountStands, .ref 16])) (g16 : h 16 = (0, .inr (401, .inl rjoin))) (q1 : (rcycleCount ≤ x2) → V G mX2_joinCycles b 53 [some (.ref 9), some (.int x1), some (.int (0 : Int32)), some (.int (0 : Int32))] [] h Q) (q2 : (¬ rcycleCount ≤ x2) → vp_in x2 401) (q3 : (¬ rcycleCount ≤ x2) → V G mX2_joinCycles b 28 [some (.ref 9), some (.int x1), some (.int (x2 + (1 : Int32)))] [] (va_up h 16 (0, .inr (401, .inl (upd rjoin x2.toNatClampNeg x2)))) Q) : V G mX2_joinCycles b 28 [some (.ref 9), some (.int x1), some (.int x2)] [] h Q := by
  refine V_iload_n dX2_joinCycles_28 rfl rfl ?_
  refine V_aload_n dX2_joinCycles_29 rfl rfl ?_
  refine V_get (ci := 2) (j := 11) (C0 := RX2) (T := TX2) (N := 14) dX2_joinCycles_30 rfl g9 (by decide) (by decide) kf_X2_93 rfl ?_
  refine V_icmp_ge (t := 49) dX2_joinCycles_33 (by decide) (fun z1 => ?_) (fun z1 => ?_)
  ·
    refine V_iconst dX2_joinCycles_49 ic_0 ?_
    refine V_istore_n dX2_joinCycles_50 rfl (Nat.le_of_ble_eq_true rfl) ?_
    refine V_iconst dX2_joinCycles_51 ic_0 ?_
    refine V_istore_n dX2_joinCycles_52 rfl (Nat.le_of_ble_eq_true rfl) ?_
    exact V_sub (by exact (And.intro rfl (And.intro rfl (And.intro rfl (And.intro rfl True.intro))))) (q1 z1)
  ·
    refine V_aload_n dX2_joinCycles_36 rfl rfl ?_
    refine V_get (ci := 2) (j := 13) (C0 := RX2) (T := TX2) (N := 14) dX2_joinCycles_37 rfl g9 (by decide) (by decide) kf_X2_30 rfl ?_
    refine V_iload_n dX2_joinCycles_40 rfl rfl ?_
    refine V_iload_n dX2_joinCycles_41 rfl rfl ?_
    refine V_iast dX2_joinCycles_42 g16 (q2 z1) ?_
    refine V_inc dX2_joinCycles_43 ic_1 rfl (Nat.le_of_ble_eq_true rfl) ?_
    refine V_goto (t := 28) dX2_joinCycles_46 (by decide) ?_
    exact V_sub (by exact (And.intro rfl (And.intro rfl (And.intro rfl True.intro)))) (q3 z1)
theorem tX2_joinCycles_53 {G : gx} {b : bg} {h : ah} {Q : Option Value → ah → Prop} {x1 : Int32} {x2 : Int32} {x3 : Int32} {raddend : Int32} {rexchanges : Int32} {rleadsStand : Int32} {rnumbersStand : Int32} {rcycleCount : Int32} {rcountStands : Int32} {wletters : Int32} {wlength : Int32} {wall : Int32} {whigh : Int32} (g9 : h 9 = (2, .inl [.ref 3, .ref 10, .int raddend, .ref 11, .ref 12, .int rexchanges, .ref 13, .int rleadsStand, .ref 14, .ref 15, .int rnumbersStand, .int rcycleCount, .int rcountStands, .ref 16])) (g3 : h 3 = (6, .inl [.ref 4, .int wletters, .int wlength, .int wall, .int whigh])) (q1 : ((wall - whigh) ≤ x3) → Q (some (.int x2)) (va_up h 9 (2, .inl [.ref 3, .ref 10, .int raddend, .ref 11, .ref 12, .int rexchanges, .ref 13, .int rleadsStand, .ref 14, .ref 15, .int rnumbersStand, .int (rcycleCount - x2), .int rcountStands, .ref 16]))) (q2 : (¬ (wall - whigh) ≤ x3) → (x1 ≤ x2) → Q (some (.int x2)) (va_up h 9 (2, .inl [.ref 3, .ref 10, .int raddend, .ref 11, .ref 12, .int rexchanges, .ref 13, .int rleadsStand, .ref 14, .ref 15, .int rnumbersStand, .int (rcycleCount - x2), .int rcountStands, .ref 16]))) (q3 : (¬ (wall - whigh) ≤ x3) → (¬ x1 ≤ x2) → V G mX2_joinCycles b 88 [some (.ref 9), some (.int x1), some (.int x2), some (.int x3)] [.int (x3 + whigh), .int x3, .ref 9] h Q) : V G mX2_joinCycles b 53 [some (.ref 9), some (.int x1), some (.int x2), some (.int x3)] [] h Q := by
  refine V_iload_n dX2_joinCycles_53 rfl rfl ?_
  refine V_aload_n dX2_joinCycles_54 rfl rfl ?_
  refine V_get (ci := 2) (j := 0) (C0 := RX2) (T := TX2) (N := 14) dX2_joinCycles_55 rfl g9 (by decide) (by decide) kf_X2_33 rfl ?_
  refine V_getN (ci := 6) (j := 3) (C0 := RX6) (T := TX6) (N := 5) dX2_joinCycles_58 rfl g3 (by decide) (by decide) kf_X2_78 rfl ?_
  refine V_aload_n dX2_joinCycles_61 rfl rfl ?_
  refine V_get (ci := 2) (j := 0) (C0 := RX2) (T := TX2) (N := 14) dX2_joinCycles_62 rfl g9 (by decide) (by decide) kf_X2_33 rfl ?_
  refine V_getN (ci := 6) (j := 4) (C0 := RX6) (T := TX6) (N := 5) dX2_joinCycles_65 rfl g3 (by decide) (by decide) kf_X2_81 rfl ?_
  refine V_isub dX2_joinCycles_68 ?_
  refine V_icmp_ge (t := 103) dX2_joinCycles_69 (by decide) (fun z1 => ?_) (fun z1 => ?_)
  ·
    refine V_aload_n dX2_joinCycles_103 rfl rfl ?_
    refine V_dup dX2_joinCycles_104 rfl ?_
    refine V_get (ci := 2) (j := 11) (C0 := RX2) (T := TX2) (N := 14) dX2_joinCycles_105 rfl g9 (by decide) (by decide) kf_X2_93 rfl ?_
    refine V_iload_n dX2_joinCycles_108 rfl rfl ?_
    refine V_isub dX2_joinCycles_109 ?_
    refine V_put (ci := 2) (j := 11) (C0 := RX2) (T := TX2) (N := 14) (ty := .int) dX2_joinCycles_110 rfl g9 (by decide) (by decide) kf_X2_93 rfl (by decide +kernel) rfl rfl (Nat.le_of_ble_eq_true rfl) ?_
    refine V_iload_n dX2_joinCycles_113 rfl rfl ?_
    exact V_iret dX2_joinCycles_114 rfl (q1 z1)
  ·
    refine V_iload_n dX2_joinCycles_72 rfl rfl ?_
    refine V_iload_n dX2_joinCycles_73 rfl rfl ?_
    refine V_icmp_ge (t := 103) dX2_joinCycles_74 (by decide) (fun z2 => ?_) (fun z2 => ?_)
    ·
      refine V_aload_n dX2_joinCycles_103 rfl rfl ?_
      refine V_dup dX2_joinCycles_104 rfl ?_
      refine V_get (ci := 2) (j := 11) (C0 := RX2) (T := TX2) (N := 14) dX2_joinCycles_105 rfl g9 (by decide) (by decide) kf_X2_93 rfl ?_
      refine V_iload_n dX2_joinCycles_108 rfl rfl ?_
      refine V_isub dX2_joinCycles_109 ?_
      refine V_put (ci := 2) (j := 11) (C0 := RX2) (T := TX2) (N := 14) (ty := .int) dX2_joinCycles_110 rfl g9 (by decide) (by decide) kf_X2_93 rfl (by decide +kernel) rfl rfl (Nat.le_of_ble_eq_true rfl) ?_
      refine V_iload_n dX2_joinCycles_113 rfl rfl ?_
      exact V_iret dX2_joinCycles_114 rfl (q2 z1 z2)
    ·
      refine V_aload_n dX2_joinCycles_77 rfl rfl ?_
      refine V_iload_n dX2_joinCycles_78 rfl rfl ?_
      refine V_iload_n dX2_joinCycles_79 rfl rfl ?_
      refine V_aload_n dX2_joinCycles_80 rfl rfl ?_
      refine V_get (ci := 2) (j := 0) (C0 := RX2) (T := TX2) (N := 14) dX2_joinCycles_81 rfl g9 (by decide) (by decide) kf_X2_33 rfl ?_
      refine V_getN (ci := 6) (j := 4) (C0 := RX6) (T := TX6) (N := 5) dX2_joinCycles_84 rfl g3 (by decide) (by decide) kf_X2_81 rfl ?_
      refine V_iadd dX2_joinCycles_87 ?_
      exact V_sub (by exact (And.intro rfl (And.intro rfl (And.intro rfl (And.intro rfl True.intro))))) (q3 z1 z2)
theorem tX2_joinCycles_4 {G : gx} {b : bg} {h : ah} {Q : Option Value → ah → Prop} {raddend : Int32} {rexchanges : Int32} {rleadsStand : Int32} {rnumbersStand : Int32} {rcycleCount : Int32} {rcountStands : Int32} (g9 : h 9 = (2, .inl [.ref 3, .ref 10, .int raddend, .ref 11, .ref 12, .int rexchanges, .ref 13, .int rleadsStand, .ref 14, .ref 15, .int rnumbersStand, .int rcycleCount, .int rcountStands, .ref 16])) (q1 : ((rexchanges + (rcycleCount - (1 : Int32))) ≤ (400 : Int32)) → V G mX2_joinCycles b 28 [some (.ref 9), some (.int (rcycleCount - (1 : Int32))), some (.int (0 : Int32))] [] h Q) (q2 : (¬ (rexchanges + (rcycleCount - (1 : Int32))) ≤ (400 : Int32)) → Q (some (.int (-4 : Int32))) h) : V G mX2_joinCycles b 4 [some (.ref 9)] [] h Q := by
  refine V_aload_n dX2_joinCycles_4 rfl rfl ?_
  refine V_get (ci := 2) (j := 11) (C0 := RX2) (T := TX2) (N := 14) dX2_joinCycles_5 rfl g9 (by decide) (by decide) kf_X2_93 rfl ?_
  refine V_iconst dX2_joinCycles_8 ic_1 ?_
  refine V_isub dX2_joinCycles_9 ?_
  refine V_istore_n dX2_joinCycles_10 rfl (Nat.le_of_ble_eq_true rfl) ?_
  refine V_aload_n dX2_joinCycles_11 rfl rfl ?_
  refine V_get (ci := 2) (j := 5) (C0 := RX2) (T := TX2) (N := 14) dX2_joinCycles_12 rfl g9 (by decide) (by decide) kf_X2_53 rfl ?_
  refine V_iload_n dX2_joinCycles_15 rfl rfl ?_
  refine V_iadd dX2_joinCycles_16 ?_
  refine V_sipush dX2_joinCycles_17 sp_400 ?_
  refine V_icmp_le (t := 26) dX2_joinCycles_20 (by decide) (fun z1 => ?_) (fun z1 => ?_)
  ·
    refine V_iconst dX2_joinCycles_26 ic_0 ?_
    refine V_istore_n dX2_joinCycles_27 rfl (Nat.le_of_ble_eq_true rfl) ?_
    exact V_sub (by exact (And.intro rfl (And.intro rfl (And.intro rfl True.intro)))) (q1 z1)
  ·
    refine V_bipush dX2_joinCycles_23 bp_m4 ?_
    exact V_iret dX2_joinCycles_25 rfl (q2 z1)
theorem tX2_joinCycles_91 {G : gx} {b : bg} {h : ah} {Q : Option Value → ah → Prop} {x1 : Int32} {x2 : Int32} {x3 : Int32} {s0 : Int32} (q1 : (s0 = (0 : Int32)) → V G mX2_joinCycles b 53 [some (.ref 9), some (.int x1), some (.int x2), some (.int (x3 + (1 : Int32)))] [] h Q) (q2 : (¬ s0 = (0 : Int32)) → V G mX2_joinCycles b 53 [some (.ref 9), some (.int x1), some (.int (x2 + (1 : Int32))), some (.int (x3 + (1 : Int32)))] [] h Q) : V G mX2_joinCycles b 91 [some (.ref 9), some (.int x1), some (.int x2), some (.int x3)] [.int s0] h Q := by
  refine V_if_eq (t := 97) dX2_joinCycles_91 (by decide) (fun z1 => ?_) (fun z1 => ?_)
  ·
    refine V_inc dX2_joinCycles_97 ic_1 rfl (Nat.le_of_ble_eq_true rfl) ?_
    refine V_goto (t := 53) dX2_joinCycles_100 (by decide) ?_
    exact V_sub (by exact (And.intro rfl (And.intro rfl (And.intro rfl (And.intro rfl True.intro))))) (q1 z1)
  ·
    refine V_inc dX2_joinCycles_94 ic_1 rfl (Nat.le_of_ble_eq_true rfl) ?_
    refine V_inc dX2_joinCycles_97 ic_1 rfl (Nat.le_of_ble_eq_true rfl) ?_
    refine V_goto (t := 53) dX2_joinCycles_100 (by decide) ?_
    exact V_sub (by exact (And.intro rfl (And.intro rfl (And.intro rfl (And.intro rfl True.intro))))) (q2 z1)
theorem cX2_joinCycles_1 {G : gx} {d mc ms cc zz d2 mc2 ms2 : Nat} {L : List (Option Value)} {S : List Value} {h : ah} {Q Q2 : Option Value → ah → Prop} {k : Nat} {fs : List Value} (hM : Ct G mX2_numberCycles d2 mc2 ms2 (.ref (k + 2) :: []) h Q2) (hc : h (k + 2) = (2, .inl fs)) (hdd : d2 < d ∧ d ≤ 9) (hrm : (S.map fun v => v.category).sum ≤ 8) (hf : cc + mc2 ≤ mc ∧ zz + ms2 ≤ ms) (kk : ∀ r h2, Q2 r h2 → V G mX2_joinCycles (d, mc, ms, cc + mc2, zz + ms2) 4 L (r.toList ++ S) h2 Q) : V G mX2_joinCycles (d, mc, ms, cc, zz) 1 L (.ref (k + 2) :: S) h Q := V_callV (ci := 2) (T := TX2) (N := 14) hM dX2_joinCycles_1 ⟨km_X2_100, ki_X2_numberCycles, ks_X2_numberCycles⟩ cw_X2_numberCycles rfl hc (by decide) hdd rfl rfl hrm hf kk
theorem cX2_joinCycles_88 {G : gx} {d mc ms cc zz d2 mc2 ms2 : Nat} {L : List (Option Value)} {S : List Value} {h : ah} {Q Q2 : Option Value → ah → Prop} {k : Nat} {fs : List Value} {a0 a1 : Value} (hM : Ct G mX2_joinAt d2 mc2 ms2 (.ref (k + 2) :: [a0, a1]) h Q2) (hc : h (k + 2) = (2, .inl fs)) (hdd : d2 < d ∧ d ≤ 9) (hrm : (S.map fun v => v.category).sum ≤ 8) (hf : cc + mc2 ≤ mc ∧ zz + ms2 ≤ ms) (kk : ∀ r h2, Q2 r h2 → V G mX2_joinCycles (d, mc, ms, cc + mc2, zz + ms2) 91 L (r.toList ++ S) h2 Q) : V G mX2_joinCycles (d, mc, ms, cc, zz) 88 L (a1 :: a0 :: .ref (k + 2) :: S) h Q := V_callV (ci := 2) (T := TX2) (N := 14) hM dX2_joinCycles_88 ⟨km_X2_121, ki_X2_joinAt, ks_X2_joinAt⟩ cw_X2_joinAt rfl hc (by decide) hdd rfl rfl hrm hf kk
theorem tX2_joinAt_0 {G : gx} {b : bg} {h : ah} {Q : Option Value → ah → Prop} {x1 : Int32} {x2 : Int32} {raddend : Int32} {rexchanges : Int32} {rleadsStand : Int32} {rnumbersStand : Int32} {rcycleCount : Int32} {rcountStands : Int32} {rnum : Nat → Int32} {rjoin : Nat → Int32} (g9 : h 9 = (2, .inl [.ref 3, .ref 10, .int raddend, .ref 11, .ref 12, .int rexchanges, .ref 13, .int rleadsStand, .ref 14, .ref 15, .int rnumbersStand, .int rcycleCount, .int rcountStands, .ref 16])) (g14 : h 14 = (0, .inr (20000, .inl rnum))) (g16 : h 16 = (0, .inr (401, .inl rjoin))) (q1 : vp_in x1 20000) (q2 : vp_in (rnum x1.toNatClampNeg) 401) (q3 : vp_in x2 20000) (q4 : vp_in (rnum x2.toNatClampNeg) 401) (q5 : (¬ (rjoin (rnum x1.toNatClampNeg).toNatClampNeg) = (rjoin (rnum x2.toNatClampNeg).toNatClampNeg)) → V G mX2_joinAt b 36 [some (.ref 9), some (.int x1), some (.int x2), some (.int (rjoin (rnum x1.toNatClampNeg).toNatClampNeg)), some (.int (rjoin (rnum x2.toNatClampNeg).toNatClampNeg)), some (.int (0 : Int32))] [] h Q) (q6 : ((rjoin (rnum x1.toNatClampNeg).toNatClampNeg) = (rjoin (rnum x2.toNatClampNeg).toNatClampNeg)) → Q (some (.int (0 : Int32))) h) : V G mX2_joinAt b 0 [some (.ref 9), some (.int x1), some (.int x2)] [] h Q := by
  refine V_aload_n dX2_joinAt_0 rfl rfl ?_
  refine V_get (ci := 2) (j := 13) (C0 := RX2) (T := TX2) (N := 14) dX2_joinAt_1 rfl g9 (by decide) (by decide) kf_X2_30 rfl ?_
  refine V_aload_n dX2_joinAt_4 rfl rfl ?_
  refine V_get (ci := 2) (j := 8) (C0 := RX2) (T := TX2) (N := 14) dX2_joinAt_5 rfl g9 (by decide) (by decide) kf_X2_24 rfl ?_
  refine V_iload_n dX2_joinAt_8 rfl rfl ?_
  refine V_iald dX2_joinAt_9 g14 (q1) ?_
  refine V_iald dX2_joinAt_10 g16 (q2) ?_
  refine V_istore_n dX2_joinAt_11 rfl (Nat.le_of_ble_eq_true rfl) ?_
  refine V_aload_n dX2_joinAt_12 rfl rfl ?_
  refine V_get (ci := 2) (j := 13) (C0 := RX2) (T := TX2) (N := 14) dX2_joinAt_13 rfl g9 (by decide) (by decide) kf_X2_30 rfl ?_
  refine V_aload_n dX2_joinAt_16 rfl rfl ?_
  refine V_get (ci := 2) (j := 8) (C0 := RX2) (T := TX2) (N := 14) dX2_joinAt_17 rfl g9 (by decide) (by decide) kf_X2_24 rfl ?_
  refine V_iload_n dX2_joinAt_20 rfl rfl ?_
  refine V_iald dX2_joinAt_21 g14 (q3) ?_
  refine V_iald dX2_joinAt_22 g16 (q4) ?_
  refine V_istore dX2_joinAt_23 (Nat.le_of_ble_eq_true rfl) ?_
  refine V_iload_n dX2_joinAt_25 rfl rfl ?_
  refine V_iload dX2_joinAt_26 rfl ?_
  refine V_icmp_ne (t := 33) dX2_joinAt_28 (by decide) (fun z1 => ?_) (fun z1 => ?_)
  ·
    refine V_iconst dX2_joinAt_33 ic_0 ?_
    refine V_istore dX2_joinAt_34 (Nat.le_of_ble_eq_true rfl) ?_
    exact V_sub (by exact (And.intro rfl (And.intro rfl (And.intro rfl (And.intro rfl (And.intro rfl (And.intro rfl True.intro))))))) (q5 z1)
  ·
    refine V_iconst dX2_joinAt_31 ic_0 ?_
    exact V_zret dX2_joinAt_32 rfl rfl (q6 z1)
theorem tX2_joinAt_36 {G : gx} {b : bg} {h : ah} {Q : Option Value → ah → Prop} {x1 : Int32} {x2 : Int32} {x3 : Int32} {x4 : Int32} {x5 : Int32} {raddend : Int32} {rexchanges : Int32} {rleadsStand : Int32} {rnumbersStand : Int32} {rcycleCount : Int32} {rcountStands : Int32} {rjoin : Nat → Int32} (g9 : h 9 = (2, .inl [.ref 3, .ref 10, .int raddend, .ref 11, .ref 12, .int rexchanges, .ref 13, .int rleadsStand, .ref 14, .ref 15, .int rnumbersStand, .int rcycleCount, .int rcountStands, .ref 16])) (g16 : h 16 = (0, .inr (401, .inl rjoin))) (q1 : (rcycleCount ≤ x5) → V G mX2_joinAt b 74 [some (.ref 9), some (.int x1), some (.int x2), some (.int x3), some (.int x4), some (.int x5)] [.int x2, .int x1, .ref 9] h Q) (q2 : (¬ rcycleCount ≤ x5) → vp_in x5 401) (q3 : (¬ rcycleCount ≤ x5) → (¬ (rjoin x5.toNatClampNeg) = x4) → V G mX2_joinAt b 36 [some (.ref 9), some (.int x1), some (.int x2), some (.int x3), some (.int x4), some (.int (x5 + (1 : Int32)))] [] h Q) (q4 : (¬ rcycleCount ≤ x5) → ((rjoin x5.toNatClampNeg) = x4) → vp_in x5 401) (q5 : (¬ rcycleCount ≤ x5) → ((rjoin x5.toNatClampNeg) = x4) → V G mX2_joinAt b 36 [some (.ref 9), some (.int x1), some (.int x2), some (.int x3), some (.int x4), some (.int (x5 + (1 : Int32)))] [] (va_up h 16 (0, .inr (401, .inl (upd rjoin x5.toNatClampNeg x3)))) Q) : V G mX2_joinAt b 36 [some (.ref 9), some (.int x1), some (.int x2), some (.int x3), some (.int x4), some (.int x5)] [] h Q := by
  refine V_iload dX2_joinAt_36 rfl ?_
  refine V_aload_n dX2_joinAt_38 rfl rfl ?_
  refine V_get (ci := 2) (j := 11) (C0 := RX2) (T := TX2) (N := 14) dX2_joinAt_39 rfl g9 (by decide) (by decide) kf_X2_93 rfl ?_
  refine V_icmp_ge (t := 71) dX2_joinAt_42 (by decide) (fun z1 => ?_) (fun z1 => ?_)
  ·
    refine V_aload_n dX2_joinAt_71 rfl rfl ?_
    refine V_iload_n dX2_joinAt_72 rfl rfl ?_
    refine V_iload_n dX2_joinAt_73 rfl rfl ?_
    exact V_sub (by exact (And.intro rfl (And.intro rfl (And.intro rfl (And.intro rfl (And.intro rfl (And.intro rfl True.intro))))))) (q1 z1)
  ·
    refine V_aload_n dX2_joinAt_45 rfl rfl ?_
    refine V_get (ci := 2) (j := 13) (C0 := RX2) (T := TX2) (N := 14) dX2_joinAt_46 rfl g9 (by decide) (by decide) kf_X2_30 rfl ?_
    refine V_iload dX2_joinAt_49 rfl ?_
    refine V_iald dX2_joinAt_51 g16 (q2 z1) ?_
    refine V_iload dX2_joinAt_52 rfl ?_
    refine V_icmp_ne (t := 65) dX2_joinAt_54 (by decide) (fun z2 => ?_) (fun z2 => ?_)
    ·
      refine V_inc dX2_joinAt_65 ic_1 rfl (Nat.le_of_ble_eq_true rfl) ?_
      refine V_goto (t := 36) dX2_joinAt_68 (by decide) ?_
      exact V_sub (by exact (And.intro rfl (And.intro rfl (And.intro rfl (And.intro rfl (And.intro rfl (And.intro rfl True.intro))))))) (q3 z1 z2)
    ·
      refine V_aload_n dX2_joinAt_57 rfl rfl ?_
      refine V_get (ci := 2) (j := 13) (C0 := RX2) (T := TX2) (N := 14) dX2_joinAt_58 rfl g9 (by decide) (by decide) kf_X2_30 rfl ?_
      refine V_iload dX2_joinAt_61 rfl ?_
      refine V_iload_n dX2_joinAt_63 rfl rfl ?_
      refine V_iast dX2_joinAt_64 g16 (q4 z1 z2) ?_
      refine V_inc dX2_joinAt_65 ic_1 rfl (Nat.le_of_ble_eq_true rfl) ?_
      refine V_goto (t := 36) dX2_joinAt_68 (by decide) ?_
      exact V_sub (by exact (And.intro rfl (And.intro rfl (And.intro rfl (And.intro rfl (And.intro rfl (And.intro rfl True.intro))))))) (q5 z1 z2)
theorem tX2_joinAt_77 {G : gx} {b : bg} {h : ah} {Q : Option Value → ah → Prop} {x1 : Int32} {x2 : Int32} {x3 : Int32} {x4 : Int32} {x5 : Int32} (q1 : V G mX2_joinAt b 80 [some (.ref 9), some (.int x1), some (.int x2), some (.int x3), some (.int x4), some (.int x5)] [.int x2, .int x1, .ref 9] h Q) : V G mX2_joinAt b 77 [some (.ref 9), some (.int x1), some (.int x2), some (.int x3), some (.int x4), some (.int x5)] [] h Q := by
  refine V_aload_n dX2_joinAt_77 rfl rfl ?_
  refine V_iload_n dX2_joinAt_78 rfl rfl ?_
  refine V_iload_n dX2_joinAt_79 rfl rfl ?_
  exact V_sub (by exact (And.intro rfl (And.intro rfl (And.intro rfl (And.intro rfl (And.intro rfl (And.intro rfl True.intro))))))) (q1)
theorem tX2_joinAt_83 {G : gx} {b : bg} {h : ah} {Q : Option Value → ah → Prop} {x1 : Int32} {x2 : Int32} {x3 : Int32} {x4 : Int32} {x5 : Int32} (q1 : Q (some (.int (1 : Int32))) h) : V G mX2_joinAt b 83 [some (.ref 9), some (.int x1), some (.int x2), some (.int x3), some (.int x4), some (.int x5)] [] h Q := by
  refine V_iconst dX2_joinAt_83 ic_1 ?_
  exact V_zret dX2_joinAt_84 rfl rfl (q1)
theorem cX2_joinAt_74 {G : gx} {d mc ms cc zz d2 mc2 ms2 : Nat} {L : List (Option Value)} {S : List Value} {h : ah} {Q Q2 : Option Value → ah → Prop} {k : Nat} {fs : List Value} {a0 a1 : Value} (hM : Ct G mX2_swapLeads d2 mc2 ms2 (.ref (k + 2) :: [a0, a1]) h Q2) (hc : h (k + 2) = (2, .inl fs)) (hdd : d2 < d ∧ d ≤ 9) (hrm : (S.map fun v => v.category).sum ≤ 8) (hf : cc + mc2 ≤ mc ∧ zz + ms2 ≤ ms) (kk : ∀ r h2, Q2 r h2 → V G mX2_joinAt (d, mc, ms, cc + mc2, zz + ms2) 77 L (r.toList ++ S) h2 Q) : V G mX2_joinAt (d, mc, ms, cc, zz) 74 L (a1 :: a0 :: .ref (k + 2) :: S) h Q := V_callV (ci := 2) (T := TX2) (N := 14) hM dX2_joinAt_74 ⟨km_X2_107, ki_X2_swapLeads, ks_X2_swapLeads⟩ cw_X2_swapLeads rfl hc (by decide) hdd rfl rfl hrm hf kk
theorem cX2_joinAt_80 {G : gx} {d mc ms cc zz d2 mc2 ms2 : Nat} {L : List (Option Value)} {S : List Value} {h : ah} {Q Q2 : Option Value → ah → Prop} {k : Nat} {fs : List Value} {a0 a1 : Value} (hM : Ct G mX2_noteExchange d2 mc2 ms2 (.ref (k + 2) :: [a0, a1]) h Q2) (hc : h (k + 2) = (2, .inl fs)) (hdd : d2 < d ∧ d ≤ 9) (hrm : (S.map fun v => v.category).sum ≤ 8) (hf : cc + mc2 ≤ mc ∧ zz + ms2 ≤ ms) (kk : ∀ r h2, Q2 r h2 → V G mX2_joinAt (d, mc, ms, cc + mc2, zz + ms2) 83 L (r.toList ++ S) h2 Q) : V G mX2_joinAt (d, mc, ms, cc, zz) 80 L (a1 :: a0 :: .ref (k + 2) :: S) h Q := V_callV (ci := 2) (T := TX2) (N := 14) hM dX2_joinAt_80 ⟨km_X2_110, ki_X2_noteExchange, ks_X2_noteExchange⟩ cw_X2_noteExchange rfl hc (by decide) hdd rfl rfl hrm hf kk
