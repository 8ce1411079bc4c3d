/-! the constructor of WordWheel, piece by piece, and its contract -/
set_option maxRecDepth 100000 in
theorem nX7_init_s0_0 {G : gx} {d mc ms c z : Nat} {h : ah} {Q : Option Value → ah → Prop} (hd9 : 1 ≤ d ∧ d ≤ 9) (hr : c + 1 ≤ mc ∧ z + 5 ≤ ms) (g2 : h 2 = (7, .inl [.null, .null, .null, .null, .null, .null, .null, .int (0 : Int32), .int (0 : Int32)])) (g0 : (h 0).1 = 1) (q1 : V G mX7_init (d, mc, ms, c + 1, z + 5) 9 [some (.ref 2)] [.ref 3, .ref 3, .ref 2] (va_up (va_up h 3 (6, .inl [.null, .int (0 : Int32), .int (0 : Int32), .int (0 : Int32), .int (0 : Int32)])) 0 (2, .inl [])) Q) : V G mX7_init (d, mc, ms, c, z) 0 [some (.ref 2)] [] h Q := by
  obtain ⟨hr1, hr2⟩ := hr
  refine V_aload_n dX7_init_0 rfl rfl ?_
  refine V_obj dX7_init_1 km_X7_1 koi koc hd9 (by decide) ?_
  refine V_aload_n dX7_init_4 rfl rfl ?_
  refine V_new (ci := 6) (N := 1) (N0 := 5) (C0 := RX6) (T := TX6) (fs := [.null, .int (0 : Int32), .int (0 : Int32), .int (0 : Int32), .int (0 : Int32)]) dX7_init_5 rfl kc_X7_7 kn_X6 kj_X6 rfl g0 ⟨by omega, by omega⟩ ?_
  refine V_dup dX7_init_8 rfl ?_
  exact q1
set_option maxRecDepth 100000 in
theorem nX7_init_s1_12 {G : gx} {d mc ms c z : Nat} {h : ah} {Q : Option Value → ah → Prop} (hd9 : 1 ≤ d ∧ d ≤ 9) (hr : c + 1 ≤ mc ∧ z + 4 ≤ ms) (g2 : h 2 = (7, .inl [.null, .null, .null, .null, .null, .null, .null, .int (0 : Int32), .int (0 : Int32)])) (g0 : (h 0).1 = 3) (q1 : V G mX7_init (d, mc, ms, c + 1, z + 4) 24 [some (.ref 2)] [.ref 3, .ref 5, .ref 5, .ref 2] (va_up (va_up (va_up h 2 (7, .inl [.ref 3, .null, .null, .null, .null, .null, .null, .int (0 : Int32), .int (0 : Int32)])) 5 (3, .inl [.null, .null, .null, .null])) 0 (4, .inl [])) Q) : V G mX7_init (d, mc, ms, c, z) 12 [some (.ref 2)] [.ref 3, .ref 2] h Q := by
  obtain ⟨hr1, hr2⟩ := hr
  refine V_putF (ci := 7) (j := 0) (C0 := RX7) (T := TX7) (N := 9) (ty := .object "WordWheel$Words") dX7_init_12 rfl g2 (by decide) (by decide) kf_X7_10 rfl rfl rfl (by decide +kernel) rfl rfl (Nat.le_of_ble_eq_true rfl) ?_
  refine V_aload_n dX7_init_15 rfl rfl ?_
  refine V_new (ci := 3) (N := 3) (N0 := 4) (C0 := RX3) (T := TX3) (fs := [.null, .null, .null, .null]) dX7_init_16 rfl kc_X7_16 kn_X3 kj_X3 rfl g0 ⟨by omega, by omega⟩ ?_
  refine V_dup dX7_init_19 rfl ?_
  refine V_aload_n dX7_init_20 rfl rfl ?_
  refine V_get (ci := 7) (j := 0) (C0 := RX7) (T := TX7) (N := 9) dX7_init_21 rfl rfl (by decide) (by decide) kf_X7_10 rfl ?_
  exact q1
set_option maxRecDepth 100000 in
theorem nX7_init_s2_27 {G : gx} {d mc ms c z : Nat} {h : ah} {Q : Option Value → ah → Prop} (hd9 : 1 ≤ d ∧ d ≤ 9) (hr : c + 1 ≤ mc ∧ z + 14 ≤ ms) (g2 : h 2 = (7, .inl [.ref 3, .null, .null, .null, .null, .null, .null, .int (0 : Int32), .int (0 : Int32)])) (g0 : (h 0).1 = 7) (q1 : V G mX7_init (d, mc, ms, c + 1, z + 14) 39 [some (.ref 2)] [.ref 3, .ref 9, .ref 9, .ref 2] (va_up (va_up (va_up h 2 (7, .inl [.ref 3, .ref 5, .null, .null, .null, .null, .null, .int (0 : Int32), .int (0 : Int32)])) 9 (2, .inl [.null, .null, .int (0 : Int32), .null, .null, .int (0 : Int32), .null, .int (0 : Int32), .null, .null, .int (0 : Int32), .int (0 : Int32), .int (0 : Int32), .null])) 0 (8, .inl [])) Q) : V G mX7_init (d, mc, ms, c, z) 27 [some (.ref 2)] [.ref 5, .ref 2] h Q := by
  obtain ⟨hr1, hr2⟩ := hr
  refine V_putF (ci := 7) (j := 1) (C0 := RX7) (T := TX7) (N := 9) (ty := .object "WordWheel$RingCounter") dX7_init_27 rfl g2 (by decide) (by decide) kf_X7_21 rfl rfl rfl (by decide +kernel) rfl rfl (Nat.le_of_ble_eq_true rfl) ?_
  refine V_aload_n dX7_init_30 rfl rfl ?_
  refine V_new (ci := 2) (N := 7) (N0 := 14) (C0 := RX2) (T := TX2) (fs := [.null, .null, .int (0 : Int32), .null, .null, .int (0 : Int32), .null, .int (0 : Int32), .null, .null, .int (0 : Int32), .int (0 : Int32), .int (0 : Int32), .null]) dX7_init_31 rfl kc_X7_25 kn_X2 kj_X2 rfl g0 ⟨by omega, by omega⟩ ?_
  refine V_dup dX7_init_34 rfl ?_
  refine V_aload_n dX7_init_35 rfl rfl ?_
  refine V_get (ci := 7) (j := 0) (C0 := RX7) (T := TX7) (N := 9) dX7_init_36 rfl rfl (by decide) (by decide) kf_X7_10 rfl ?_
  exact q1
set_option maxRecDepth 100000 in
theorem nX7_init_s3_42 {G : gx} {d mc ms c z : Nat} {h : ah} {Q : Option Value → ah → Prop} (hd9 : 1 ≤ d ∧ d ≤ 9) (hr : c + 1 ≤ mc ∧ z + 8 ≤ ms) (g2 : h 2 = (7, .inl [.ref 3, .ref 5, .null, .null, .null, .null, .null, .int (0 : Int32), .int (0 : Int32)])) (g0 : (h 0).1 = 15) (q1 : V G mX7_init (d, mc, ms, c + 1, z + 8) 54 [some (.ref 2)] [.ref 3, .ref 17, .ref 17, .ref 2] (va_up (va_up (va_up h 2 (7, .inl [.ref 3, .ref 5, .ref 9, .null, .null, .null, .null, .int (0 : Int32), .int (0 : Int32)])) 17 (4, .inl [.null, .null, .null, .int (0 : Int32), .null, .null, .null, .int (0 : Int32)])) 0 (16, .inl [])) Q) : V G mX7_init (d, mc, ms, c, z) 42 [some (.ref 2)] [.ref 9, .ref 2] h Q := by
  obtain ⟨hr1, hr2⟩ := hr
  refine V_putF (ci := 7) (j := 2) (C0 := RX7) (T := TX7) (N := 9) (ty := .object "WordWheel$Register") dX7_init_42 rfl g2 (by decide) (by decide) kf_X7_28 rfl rfl rfl (by decide +kernel) rfl rfl (Nat.le_of_ble_eq_true rfl) ?_
  refine V_aload_n dX7_init_45 rfl rfl ?_
  refine V_new (ci := 4) (N := 15) (N0 := 8) (C0 := RX4) (T := TX4) (fs := [.null, .null, .null, .int (0 : Int32), .null, .null, .null, .int (0 : Int32)]) dX7_init_46 rfl kc_X7_32 kn_X4 kj_X4 rfl g0 ⟨by omega, by omega⟩ ?_
  refine V_dup dX7_init_49 rfl ?_
  refine V_aload_n dX7_init_50 rfl rfl ?_
  refine V_get (ci := 7) (j := 0) (C0 := RX7) (T := TX7) (N := 9) dX7_init_51 rfl rfl (by decide) (by decide) kf_X7_10 rfl ?_
  exact q1
set_option maxRecDepth 100000 in
theorem nX7_init_s4_57 {G : gx} {d mc ms c z : Nat} {h : ah} {Q : Option Value → ah → Prop} (hd9 : 1 ≤ d ∧ d ≤ 9) (hr : c + 2 ≤ mc ∧ z + 9 ≤ ms) (g2 : h 2 = (7, .inl [.ref 3, .ref 5, .ref 9, .null, .null, .null, .null, .int (0 : Int32), .int (0 : Int32)])) (g0 : (h 0).1 = 21) (q1 : V G mX7_init (d, mc, ms, c + 1 + 1, z + 4 + 5) 88 [some (.ref 2), some (.int (0 : Int32))] [.ref 3, .ref 24, .ref 24, .int (0 : Int32), .ref 23] (va_up (va_up (va_up (va_up (va_up (va_up h 2 (7, .inl [.ref 3, .ref 5, .ref 9, .ref 17, .null, .null, .null, .int (0 : Int32), .int (0 : Int32)])) 23 (4, .inr (4, .inr (.inr (fun _ => none))))) 0 (22, .inl [])) 2 (7, .inl [.ref 3, .ref 5, .ref 9, .ref 17, .ref 23, .null, .null, .int (0 : Int32), .int (0 : Int32)])) 24 (5, .inl [.null, .null, .int (0 : Int32), .int (0 : Int32), .null])) 0 (23, .inl [])) Q) : V G mX7_init (d, mc, ms, c, z) 57 [some (.ref 2)] [.ref 17, .ref 2] h Q := by
  obtain ⟨hr1, hr2⟩ := hr
  refine V_putF (ci := 7) (j := 3) (C0 := RX7) (T := TX7) (N := 9) (ty := .object "WordWheel$Round") dX7_init_57 rfl g2 (by decide) (by decide) kf_X7_35 rfl rfl rfl (by decide +kernel) rfl rfl (Nat.le_of_ble_eq_true rfl) ?_
  refine V_aload_n dX7_init_60 rfl rfl ?_
  refine V_iconst dX7_init_61 ic_4 ?_
  refine V_anew (N := 21) (n := 4) dX7_init_62 kc_X7_39 nn_4 nc_4 (by decide) g0 ⟨by omega, by omega⟩ ?_
  refine V_putF (ci := 7) (j := 4) (C0 := RX7) (T := TX7) (N := 9) (ty := .array (.object "WordWheel$Tape")) dX7_init_65 rfl rfl (by decide) (by decide) kf_X7_41 rfl rfl rfl (by decide +kernel) rfl rfl (Nat.le_of_ble_eq_true rfl) ?_
  refine V_iconst dX7_init_68 ic_0 ?_
  refine V_istore_n dX7_init_69 rfl (Nat.le_of_ble_eq_true rfl) ?_
  refine V_iload_n dX7_init_70 rfl rfl ?_
  refine V_iconst dX7_init_71 ic_4 ?_
  refine V_icmp_ge (t := 98) dX7_init_72 (by decide) (fun q => absurd q (by decide)) (fun _ => ?_)
  refine V_aload_n dX7_init_75 rfl rfl ?_
  refine V_get (ci := 7) (j := 4) (C0 := RX7) (T := TX7) (N := 9) dX7_init_76 rfl rfl (by decide) (by decide) kf_X7_41 rfl ?_
  refine V_iload_n dX7_init_79 rfl rfl ?_
  refine V_new (ci := 5) (N := 22) (N0 := 5) (C0 := RX5) (T := TX5) (fs := [.null, .null, .int (0 : Int32), .int (0 : Int32), .null]) dX7_init_80 rfl kc_X7_39 kn_X5 kj_X5 rfl rfl ⟨by omega, by omega⟩ ?_
  refine V_dup dX7_init_83 rfl ?_
  refine V_aload_n dX7_init_84 rfl rfl ?_
  refine V_get (ci := 7) (j := 0) (C0 := RX7) (T := TX7) (N := 9) dX7_init_85 rfl rfl (by decide) (by decide) kf_X7_10 rfl ?_
  exact q1
set_option maxRecDepth 100000 in
theorem nX7_init_s5_91 {G : gx} {d mc ms c z : Nat} {h : ah} {Q : Option Value → ah → Prop} (hd9 : 1 ≤ d ∧ d ≤ 9) (hr : c + 1 ≤ mc ∧ z + 5 ≤ ms) (g2 : h 2 = (7, .inl [.ref 3, .ref 5, .ref 9, .ref 17, .ref 23, .null, .null, .int (0 : Int32), .int (0 : Int32)])) (g23 : h 23 = (4, .inr (4, .inr (.inr (fun _ => none))))) (g24 : h 24 = (5, .inl [.ref 3, .ref 25, .int (-1 : Int32), .int (0 : Int32), .ref 26])) (g0 : (h 0).1 = 25) (q1 : V G mX7_init (d, mc, ms, c + 1, z + 5) 88 [some (.ref 2), some (.int ((0 : Int32) + (1 : Int32)))] [.ref 3, .ref 27, .ref 27, .int ((0 : Int32) + (1 : Int32)), .ref 23] (va_up (va_up (va_up h 23 (4, .inr (4, .inr (.inr (va_up (fun _ => none) (0 : Int32).toNatClampNeg (some 24)))))) 27 (5, .inl [.null, .null, .int (0 : Int32), .int (0 : Int32), .null])) 0 (26, .inl [])) Q) : V G mX7_init (d, mc, ms, c, z) 91 [some (.ref 2), some (.int (0 : Int32))] [.ref 24, .int (0 : Int32), .ref 23] h Q := by
  obtain ⟨hr1, hr2⟩ := hr
  refine V_aast (ci := 5) (T := TX5) (N0 := 5) dX7_init_91 g23 g24 (by decide) rfl (by unfold vp_in; decide) ?_
  refine V_inc dX7_init_92 ic_1 rfl (Nat.le_of_ble_eq_true rfl) ?_
  refine V_goto (t := 70) dX7_init_95 (by decide) ?_
  refine V_iload_n dX7_init_70 rfl rfl ?_
  refine V_iconst dX7_init_71 ic_4 ?_
  refine V_icmp_ge (t := 98) dX7_init_72 (by decide) (fun q => absurd q (by decide)) (fun _ => ?_)
  refine V_aload_n dX7_init_75 rfl rfl ?_
  refine V_get (ci := 7) (j := 4) (C0 := RX7) (T := TX7) (N := 9) dX7_init_76 rfl g2 (by decide) (by decide) kf_X7_41 rfl ?_
  refine V_iload_n dX7_init_79 rfl rfl ?_
  refine V_new (ci := 5) (N := 25) (N0 := 5) (C0 := RX5) (T := TX5) (fs := [.null, .null, .int (0 : Int32), .int (0 : Int32), .null]) dX7_init_80 rfl kc_X7_39 kn_X5 kj_X5 rfl g0 ⟨by omega, by omega⟩ ?_
  refine V_dup dX7_init_83 rfl ?_
  refine V_aload_n dX7_init_84 rfl rfl ?_
  refine V_get (ci := 7) (j := 0) (C0 := RX7) (T := TX7) (N := 9) dX7_init_85 rfl g2 (by decide) (by decide) kf_X7_10 rfl ?_
  exact q1
set_option maxRecDepth 100000 in
theorem nX7_init_s6_91 {G : gx} {d mc ms c z : Nat} {h : ah} {Q : Option Value → ah → Prop} (hd9 : 1 ≤ d ∧ d ≤ 9) (hr : c + 1 ≤ mc ∧ z + 5 ≤ ms) (g2 : h 2 = (7, .inl [.ref 3, .ref 5, .ref 9, .ref 17, .ref 23, .null, .null, .int (0 : Int32), .int (0 : Int32)])) (g23 : h 23 = (4, .inr (4, .inr (.inr (va_up (fun _ => none) (0 : Int32).toNatClampNeg (some 24)))))) (g27 : h 27 = (5, .inl [.ref 3, .ref 28, .int (-1 : Int32), .int (0 : Int32), .ref 29])) (g0 : (h 0).1 = 28) (q1 : V G mX7_init (d, mc, ms, c + 1, z + 5) 88 [some (.ref 2), some (.int (((0 : Int32) + (1 : Int32)) + (1 : Int32)))] [.ref 3, .ref 30, .ref 30, .int (((0 : Int32) + (1 : Int32)) + (1 : Int32)), .ref 23] (va_up (va_up (va_up h 23 (4, .inr (4, .inr (.inr (va_up (va_up (fun _ => none) (0 : Int32).toNatClampNeg (some 24)) ((0 : Int32) + (1 : Int32)).toNatClampNeg (some 27)))))) 30 (5, .inl [.null, .null, .int (0 : Int32), .int (0 : Int32), .null])) 0 (29, .inl [])) Q) : V G mX7_init (d, mc, ms, c, z) 91 [some (.ref 2), some (.int ((0 : Int32) + (1 : Int32)))] [.ref 27, .int ((0 : Int32) + (1 : Int32)), .ref 23] h Q := by
  obtain ⟨hr1, hr2⟩ := hr
  refine V_aast (ci := 5) (T := TX5) (N0 := 5) dX7_init_91 g23 g27 (by decide) rfl (by unfold vp_in; decide) ?_
  refine V_inc dX7_init_92 ic_1 rfl (Nat.le_of_ble_eq_true rfl) ?_
  refine V_goto (t := 70) dX7_init_95 (by decide) ?_
  refine V_iload_n dX7_init_70 rfl rfl ?_
  refine V_iconst dX7_init_71 ic_4 ?_
  refine V_icmp_ge (t := 98) dX7_init_72 (by decide) (fun q => absurd q (by decide)) (fun _ => ?_)
  refine V_aload_n dX7_init_75 rfl rfl ?_
  refine V_get (ci := 7) (j := 4) (C0 := RX7) (T := TX7) (N := 9) dX7_init_76 rfl g2 (by decide) (by decide) kf_X7_41 rfl ?_
  refine V_iload_n dX7_init_79 rfl rfl ?_
  refine V_new (ci := 5) (N := 28) (N0 := 5) (C0 := RX5) (T := TX5) (fs := [.null, .null, .int (0 : Int32), .int (0 : Int32), .null]) dX7_init_80 rfl kc_X7_39 kn_X5 kj_X5 rfl g0 ⟨by omega, by omega⟩ ?_
  refine V_dup dX7_init_83 rfl ?_
  refine V_aload_n dX7_init_84 rfl rfl ?_
  refine V_get (ci := 7) (j := 0) (C0 := RX7) (T := TX7) (N := 9) dX7_init_85 rfl g2 (by decide) (by decide) kf_X7_10 rfl ?_
  exact q1
set_option maxRecDepth 100000 in
theorem nX7_init_s7_91 {G : gx} {d mc ms c z : Nat} {h : ah} {Q : Option Value → ah → Prop} (hd9 : 1 ≤ d ∧ d ≤ 9) (hr : c + 1 ≤ mc ∧ z + 5 ≤ ms) (g2 : h 2 = (7, .inl [.ref 3, .ref 5, .ref 9, .ref 17, .ref 23, .null, .null, .int (0 : Int32), .int (0 : Int32)])) (g23 : h 23 = (4, .inr (4, .inr (.inr (va_up (va_up (fun _ => none) (0 : Int32).toNatClampNeg (some 24)) ((0 : Int32) + (1 : Int32)).toNatClampNeg (some 27)))))) (g30 : h 30 = (5, .inl [.ref 3, .ref 31, .int (-1 : Int32), .int (0 : Int32), .ref 32])) (g0 : (h 0).1 = 31) (q1 : V G mX7_init (d, mc, ms, c + 1, z + 5) 88 [some (.ref 2), some (.int ((((0 : Int32) + (1 : Int32)) + (1 : Int32)) + (1 : Int32)))] [.ref 3, .ref 33, .ref 33, .int ((((0 : Int32) + (1 : Int32)) + (1 : Int32)) + (1 : Int32)), .ref 23] (va_up (va_up (va_up h 23 (4, .inr (4, .inr (.inr (va_up (va_up (va_up (fun _ => none) (0 : Int32).toNatClampNeg (some 24)) ((0 : Int32) + (1 : Int32)).toNatClampNeg (some 27)) (((0 : Int32) + (1 : Int32)) + (1 : Int32)).toNatClampNeg (some 30)))))) 33 (5, .inl [.null, .null, .int (0 : Int32), .int (0 : Int32), .null])) 0 (32, .inl [])) Q) : V G mX7_init (d, mc, ms, c, z) 91 [some (.ref 2), some (.int (((0 : Int32) + (1 : Int32)) + (1 : Int32)))] [.ref 30, .int (((0 : Int32) + (1 : Int32)) + (1 : Int32)), .ref 23] h Q := by
  obtain ⟨hr1, hr2⟩ := hr
  refine V_aast (ci := 5) (T := TX5) (N0 := 5) dX7_init_91 g23 g30 (by decide) rfl (by unfold vp_in; decide) ?_
  refine V_inc dX7_init_92 ic_1 rfl (Nat.le_of_ble_eq_true rfl) ?_
  refine V_goto (t := 70) dX7_init_95 (by decide) ?_
  refine V_iload_n dX7_init_70 rfl rfl ?_
  refine V_iconst dX7_init_71 ic_4 ?_
  refine V_icmp_ge (t := 98) dX7_init_72 (by decide) (fun q => absurd q (by decide)) (fun _ => ?_)
  refine V_aload_n dX7_init_75 rfl rfl ?_
  refine V_get (ci := 7) (j := 4) (C0 := RX7) (T := TX7) (N := 9) dX7_init_76 rfl g2 (by decide) (by decide) kf_X7_41 rfl ?_
  refine V_iload_n dX7_init_79 rfl rfl ?_
  refine V_new (ci := 5) (N := 31) (N0 := 5) (C0 := RX5) (T := TX5) (fs := [.null, .null, .int (0 : Int32), .int (0 : Int32), .null]) dX7_init_80 rfl kc_X7_39 kn_X5 kj_X5 rfl g0 ⟨by omega, by omega⟩ ?_
  refine V_dup dX7_init_83 rfl ?_
  refine V_aload_n dX7_init_84 rfl rfl ?_
  refine V_get (ci := 7) (j := 0) (C0 := RX7) (T := TX7) (N := 9) dX7_init_85 rfl g2 (by decide) (by decide) kf_X7_10 rfl ?_
  exact q1
set_option maxRecDepth 100000 in
theorem nX7_init_s8_91 {G : gx} {d mc ms c z : Nat} {h : ah} {Q : Option Value → ah → Prop} (hd9 : 1 ≤ d ∧ d ≤ 9) (hr : c + 1 ≤ mc ∧ z + 2 ≤ ms) (g2 : h 2 = (7, .inl [.ref 3, .ref 5, .ref 9, .ref 17, .ref 23, .null, .null, .int (0 : Int32), .int (0 : Int32)])) (g23 : h 23 = (4, .inr (4, .inr (.inr (va_up (va_up (va_up (fun _ => none) (0 : Int32).toNatClampNeg (some 24)) ((0 : Int32) + (1 : Int32)).toNatClampNeg (some 27)) (((0 : Int32) + (1 : Int32)) + (1 : Int32)).toNatClampNeg (some 30)))))) (g33 : h 33 = (5, .inl [.ref 3, .ref 34, .int (-1 : Int32), .int (0 : Int32), .ref 35])) (g0 : (h 0).1 = 34) (q1 : V G mX7_init (d, mc, ms, c + 1, z + 2) 103 [some (.ref 2), some (.int (((((0 : Int32) + (1 : Int32)) + (1 : Int32)) + (1 : Int32)) + (1 : Int32)))] [.ref 36, .ref 36, .ref 2] (va_up (va_up (va_up h 23 (4, .inr (4, .inr (.inr (va_up (va_up (va_up (va_up (fun _ => none) (0 : Int32).toNatClampNeg (some 24)) ((0 : Int32) + (1 : Int32)).toNatClampNeg (some 27)) (((0 : Int32) + (1 : Int32)) + (1 : Int32)).toNatClampNeg (some 30)) ((((0 : Int32) + (1 : Int32)) + (1 : Int32)) + (1 : Int32)).toNatClampNeg (some 33)))))) 36 (0, .inl [.null, .int (0 : Int32)])) 0 (35, .inl [])) Q) : V G mX7_init (d, mc, ms, c, z) 91 [some (.ref 2), some (.int ((((0 : Int32) + (1 : Int32)) + (1 : Int32)) + (1 : Int32)))] [.ref 33, .int ((((0 : Int32) + (1 : Int32)) + (1 : Int32)) + (1 : Int32)), .ref 23] h Q := by
  obtain ⟨hr1, hr2⟩ := hr
  refine V_aast (ci := 5) (T := TX5) (N0 := 5) dX7_init_91 g23 g33 (by decide) rfl (by unfold vp_in; decide) ?_
  refine V_inc dX7_init_92 ic_1 rfl (Nat.le_of_ble_eq_true rfl) ?_
  refine V_goto (t := 70) dX7_init_95 (by decide) ?_
  refine V_iload_n dX7_init_70 rfl rfl ?_
  refine V_iconst dX7_init_71 ic_4 ?_
  refine V_icmp_ge (t := 98) dX7_init_72 (by decide) (fun _ => ?_) (fun q => absurd (by decide) q)
  refine V_aload_n dX7_init_98 rfl rfl ?_
  refine V_new (ci := 0) (N := 34) (N0 := 2) (C0 := RX0) (T := TX0) (fs := [.null, .int (0 : Int32)]) dX7_init_99 rfl kc_X7_46 kn_X0 kj_X0 rfl g0 ⟨by omega, by omega⟩ ?_
  refine V_dup dX7_init_102 rfl ?_
  exact q1
set_option maxRecDepth 100000 in
theorem nX7_init_s9_106 {G : gx} {d mc ms c z : Nat} {h : ah} {Q : Option Value → ah → Prop} (hd9 : 1 ≤ d ∧ d ≤ 9) (hr : c + 1 ≤ mc ∧ z + 5 ≤ ms) (g2 : h 2 = (7, .inl [.ref 3, .ref 5, .ref 9, .ref 17, .ref 23, .null, .null, .int (0 : Int32), .int (0 : Int32)])) (g0 : (h 0).1 = 36) (q1 : V G mX7_init (d, mc, ms, c + 1, z + 5) 114 [some (.ref 2), some (.int (((((0 : Int32) + (1 : Int32)) + (1 : Int32)) + (1 : Int32)) + (1 : Int32)))] [.ref 38, .ref 38, .ref 2] (va_up (va_up (va_up h 2 (7, .inl [.ref 3, .ref 5, .ref 9, .ref 17, .ref 23, .ref 36, .null, .int (0 : Int32), .int (0 : Int32)])) 38 (1, .inl [.null, .null, .null, .int (0 : Int32), .int (0 : Int32)])) 0 (37, .inl [])) Q) : V G mX7_init (d, mc, ms, c, z) 106 [some (.ref 2), some (.int (((((0 : Int32) + (1 : Int32)) + (1 : Int32)) + (1 : Int32)) + (1 : Int32)))] [.ref 36, .ref 2] h Q := by
  obtain ⟨hr1, hr2⟩ := hr
  refine V_putF (ci := 7) (j := 5) (C0 := RX7) (T := TX7) (N := 9) (ty := .object "WordWheel$Parting") dX7_init_106 rfl g2 (by decide) (by decide) kf_X7_49 rfl rfl rfl (by decide +kernel) rfl rfl (Nat.le_of_ble_eq_true rfl) ?_
  refine V_aload_n dX7_init_109 rfl rfl ?_
  refine V_new (ci := 1) (N := 36) (N0 := 5) (C0 := RX1) (T := TX1) (fs := [.null, .null, .null, .int (0 : Int32), .int (0 : Int32)]) dX7_init_110 rfl kc_X7_53 kn_X1 kj_X1 rfl g0 ⟨by omega, by omega⟩ ?_
  refine V_dup dX7_init_113 rfl ?_
  exact q1
set_option maxRecDepth 100000 in
theorem nX7_init_s10_117 {G : gx} {d mc ms c z : Nat} {h : ah} {Q : Option Value → ah → Prop} (hd9 : 1 ≤ d ∧ d ≤ 9) (hr : c + 0 ≤ mc ∧ z + 0 ≤ ms) (g2 : h 2 = (7, .inl [.ref 3, .ref 5, .ref 9, .ref 17, .ref 23, .ref 36, .null, .int (0 : Int32), .int (0 : Int32)])) (g0 : (h 0).1 = 40) (q1 : Q none (va_up (va_up (va_up h 2 (7, .inl [.ref 3, .ref 5, .ref 9, .ref 17, .ref 23, .ref 36, .ref 38, .int (0 : Int32), .int (0 : Int32)])) 2 (7, .inl [.ref 3, .ref 5, .ref 9, .ref 17, .ref 23, .ref 36, .ref 38, .int (-1 : Int32), .int (0 : Int32)])) 2 (7, .inl [.ref 3, .ref 5, .ref 9, .ref 17, .ref 23, .ref 36, .ref 38, .int (-1 : Int32), .int (0 : Int32)]))) : V G mX7_init (d, mc, ms, c, z) 117 [some (.ref 2), some (.int (((((0 : Int32) + (1 : Int32)) + (1 : Int32)) + (1 : Int32)) + (1 : Int32)))] [.ref 38, .ref 2] h Q := by
  obtain ⟨hr1, hr2⟩ := hr
  refine V_putF (ci := 7) (j := 6) (C0 := RX7) (T := TX7) (N := 9) (ty := .object "WordWheel$Recurring") dX7_init_117 rfl g2 (by decide) (by decide) kf_X7_56 rfl rfl rfl (by decide +kernel) rfl rfl (Nat.le_of_ble_eq_true rfl) ?_
  refine V_aload_n dX7_init_120 rfl rfl ?_
  refine V_iconst dX7_init_121 ic_m1 ?_
  refine V_put (ci := 7) (j := 7) (C0 := RX7) (T := TX7) (N := 9) (ty := .int) dX7_init_122 rfl rfl (by decide) (by decide) kf_X7_60 rfl (by decide +kernel) rfl rfl (Nat.le_of_ble_eq_true rfl) ?_
  refine V_aload_n dX7_init_125 rfl rfl ?_
  refine V_iconst dX7_init_126 ic_0 ?_
  refine V_put (ci := 7) (j := 8) (C0 := RX7) (T := TX7) (N := 9) (ty := .int) dX7_init_127 rfl rfl (by decide) (by decide) kf_X7_64 rfl (by decide +kernel) rfl rfl (Nat.le_of_ble_eq_true rfl) ?_
  exact V_vret dX7_init_130 rfl (q1)
/-- the heap behind new WordWheel() -/
def Hx (h9 : ah) : Prop := h9 2 = cX (-1) 0 ∧ h9 3 = cW 2 3 ∧ (∃ pw, h9 4 = aI 15 pw ∧ isP 2 3 pw) ∧ h9 9 = cR 0 0 0 0 0 0 ∧ (∃ f, h9 10 = aI 14 f ∧ isT f) ∧ h9 11 = aI 400 (fun _ => 0) ∧ h9 12 = aI 400 (fun _ => 0) ∧ h9 13 = aI 20000 (fun _ => 0) ∧ h9 14 = aI 20000 (fun _ => 0) ∧ h9 15 = aI 20000 (fun _ => 0) ∧ h9 16 = aI 401 (fun _ => 0) ∧ (∃ tp : Nat → Option Nat, h9 23 = (4, .inr (4, .inr (.inr tp))) ∧ tp 0 = some 24 ∧ tp 1 = some 27 ∧ tp 2 = some 30 ∧ tp 3 = some 33) ∧ h9 5 = (3, .inl [.ref 3, .ref 6, .ref 7, .ref 8]) ∧ h9 6 = (0, .inr (14, .inl (fun _ => 0))) ∧ h9 7 = (0, .inr (15, .inl (fun _ => 0))) ∧ h9 8 = (0, .inr (5, .inl (fun _ => 0))) ∧ h9 17 = (4, .inl [.ref 3, .ref 18, .ref 19, .int (-1 : Int32), .ref 20, .ref 21, .ref 22, .int (-1 : Int32)]) ∧ h9 18 = (1, .inr (20000, .inl (fun _ => 0))) ∧ h9 19 = (0, .inr (20000, .inl (fun _ => 0))) ∧ h9 20 = (0, .inr (14, .inl (fun _ => 0))) ∧ h9 21 = (3, .inr (5, .inr (.inl (fun _ => 0)))) ∧ h9 22 = (3, .inr (5, .inr (.inl (fun _ => 0)))) ∧ h9 24 = (5, .inl [.ref 3, .ref 25, .int (-1 : Int32), .int (0 : Int32), .ref 26]) ∧ h9 25 = (0, .inr (200, .inl (fun _ => 0))) ∧ h9 26 = (0, .inr (200, .inl (fun _ => 0))) ∧ h9 27 = (5, .inl [.ref 3, .ref 28, .int (-1 : Int32), .int (0 : Int32), .ref 29]) ∧ h9 28 = (0, .inr (200, .inl (fun _ => 0))) ∧ h9 29 = (0, .inr (200, .inl (fun _ => 0))) ∧ h9 30 = (5, .inl [.ref 3, .ref 31, .int (-1 : Int32), .int (0 : Int32), .ref 32]) ∧ h9 31 = (0, .inr (200, .inl (fun _ => 0))) ∧ h9 32 = (0, .inr (200, .inl (fun _ => 0))) ∧ h9 33 = (5, .inl [.ref 3, .ref 34, .int (-1 : Int32), .int (0 : Int32), .ref 35]) ∧ h9 34 = (0, .inr (200, .inl (fun _ => 0))) ∧ h9 35 = (0, .inr (200, .inl (fun _ => 0))) ∧ h9 36 = (0, .inl [.ref 37, .int (0 : Int32)]) ∧ h9 37 = (0, .inr (200, .inl (fun _ => 0))) ∧ h9 38 = (1, .inl [.ref 39, .ref 40, .ref 41, .int (0 : Int32), .int (2 : Int32)]) ∧ h9 39 = (0, .inr (201, .inl (fun _ => 0))) ∧ h9 40 = (0, .inr (201, .inl (fun _ => 0))) ∧ h9 41 = (0, .inr (201, .inl (fun _ => 0)))
set_option maxRecDepth 100000 in
set_option maxHeartbeats 2000000 in
theorem K_X7 {G : gx} {h : ah} (g : h 2 = (7, .inl [.null, .null, .null, .null, .null, .null, .null, .int (0 : Int32), .int (0 : Int32)])) (g0 : (h 0).1 = 1) : Ct G mX7_init 3 39 103753 [.ref 2] h (fun r h9 => r = none ∧ (h9 0).1 = 40 ∧ Hx h9) := by
  refine Ct_of (by decide +kernel) (Nat.le_of_ble_eq_true rfl) (nX7_init_s0_0 ⟨by decide, by decide⟩ ⟨Nat.le_of_ble_eq_true rfl, Nat.le_of_ble_eq_true rfl⟩ g g0 ?_)
  refine V_callIN (k := 3) (As := []) (S := [.ref 3, .ref 2]) (K_X6 rfl rfl) dX7_init_9 rfl rfl ⟨km_X7_9, ki_X6_init⟩ cw_X6_init ⟨by decide, by decide⟩ rfl rfl (by decide) ⟨Nat.le_of_ble_eq_true rfl, Nat.le_of_ble_eq_true rfl⟩ (fun r h1 e1 => ?_)
  obtain ⟨rfl, a3, ⟨pw, a4, a4p⟩, z1, f1⟩ := e1
  refine nX7_init_s1_12 ⟨by decide, by decide⟩ ⟨Nat.le_of_ble_eq_true rfl, Nat.le_of_ble_eq_true rfl⟩ ((f1 2 (by decide)).trans g) z1 ?_
  refine V_callIN (k := 5) (As := [.ref 3]) (S := [.ref 5, .ref 2]) (K_X3 rfl rfl) dX7_init_24 rfl rfl ⟨km_X7_18, ki_X3_init⟩ cw_X3_init ⟨by decide, by decide⟩ rfl rfl (by decide) ⟨Nat.le_of_ble_eq_true rfl, Nat.le_of_ble_eq_true rfl⟩ (fun r h2 e2 => ?_)
  obtain ⟨rfl, a5, a6, a7, a8, z2, f2⟩ := e2
  refine nX7_init_s2_27 ⟨by decide, by decide⟩ ⟨Nat.le_of_ble_eq_true rfl, Nat.le_of_ble_eq_true rfl⟩ (f2 2 (by decide)) z2 ?_
  refine V_callIN (k := 9) (As := [.ref 3]) (S := [.ref 9, .ref 2]) (K_X2 rfl rfl) dX7_init_39 rfl rfl ⟨km_X7_27, ki_X2_init⟩ cw_X2_init ⟨by decide, by decide⟩ rfl rfl (by decide) ⟨Nat.le_of_ble_eq_true rfl, Nat.le_of_ble_eq_true rfl⟩ (fun r h3 e3 => ?_)
  obtain ⟨rfl, a9, ⟨fc, a10, a10p⟩, a11, a12, a13, a14, a15, a16, z3, f3⟩ := e3
  refine nX7_init_s3_42 ⟨by decide, by decide⟩ ⟨Nat.le_of_ble_eq_true rfl, Nat.le_of_ble_eq_true rfl⟩ (f3 2 (by decide)) z3 ?_
  refine V_callIN (k := 17) (As := [.ref 3]) (S := [.ref 17, .ref 2]) (K_X4 rfl rfl) dX7_init_54 rfl rfl ⟨km_X7_34, ki_X4_init⟩ cw_X4_init ⟨by decide, by decide⟩ rfl rfl (by decide) ⟨Nat.le_of_ble_eq_true rfl, Nat.le_of_ble_eq_true rfl⟩ (fun r h4 e4 => ?_)
  obtain ⟨rfl, a17, a18, a19, a20, a21, a22, z4, f4⟩ := e4
  refine nX7_init_s4_57 ⟨by decide, by decide⟩ ⟨Nat.le_of_ble_eq_true rfl, Nat.le_of_ble_eq_true rfl⟩ (f4 2 (by decide)) z4 ?_
  refine V_callIN (k := 24) (As := [.ref 3]) (S := [.ref 24, .int (0 : Int32), .ref 23]) (K_X50 rfl rfl) dX7_init_88 rfl rfl ⟨km_X7_45, ki_X5_init⟩ cw_X5_init ⟨by decide, by decide⟩ rfl rfl (by decide) ⟨Nat.le_of_ble_eq_true rfl, Nat.le_of_ble_eq_true rfl⟩ (fun r h5 e5 => ?_)
  obtain ⟨rfl, a24, a25, a26, z5, f5⟩ := e5
  refine nX7_init_s5_91 ⟨by decide, by decide⟩ ⟨Nat.le_of_ble_eq_true rfl, Nat.le_of_ble_eq_true rfl⟩ (f5 2 (by decide)) (f5 23 (by decide)) a24 z5 ?_
  refine V_callIN (k := 27) (As := [.ref 3]) (S := [.ref 27, .int ((0 : Int32) + (1 : Int32)), .ref 23]) (K_X51 rfl rfl) dX7_init_88 rfl rfl ⟨km_X7_45, ki_X5_init⟩ cw_X5_init ⟨by decide, by decide⟩ rfl rfl (by decide) ⟨Nat.le_of_ble_eq_true rfl, Nat.le_of_ble_eq_true rfl⟩ (fun r h6 e6 => ?_)
  obtain ⟨rfl, a27, a28, a29, z6, f6⟩ := e6
  refine nX7_init_s6_91 ⟨by decide, by decide⟩ ⟨Nat.le_of_ble_eq_true rfl, Nat.le_of_ble_eq_true rfl⟩ ((f6 2 (by decide)).trans (f5 2 (by decide))) (f6 23 (by decide)) a27 z6 ?_
  refine V_callIN (k := 30) (As := [.ref 3]) (S := [.ref 30, .int (((0 : Int32) + (1 : Int32)) + (1 : Int32)), .ref 23]) (K_X52 rfl rfl) dX7_init_88 rfl rfl ⟨km_X7_45, ki_X5_init⟩ cw_X5_init ⟨by decide, by decide⟩ rfl rfl (by decide) ⟨Nat.le_of_ble_eq_true rfl, Nat.le_of_ble_eq_true rfl⟩ (fun r h7 e7 => ?_)
  obtain ⟨rfl, a30, a31, a32, z7, f7⟩ := e7
  refine nX7_init_s7_91 ⟨by decide, by decide⟩ ⟨Nat.le_of_ble_eq_true rfl, Nat.le_of_ble_eq_true rfl⟩ ((f7 2 (by decide)).trans ((f6 2 (by decide)).trans (f5 2 (by decide)))) (f7 23 (by decide)) a30 z7 ?_
  refine V_callIN (k := 33) (As := [.ref 3]) (S := [.ref 33, .int ((((0 : Int32) + (1 : Int32)) + (1 : Int32)) + (1 : Int32)), .ref 23]) (K_X53 rfl rfl) dX7_init_88 rfl rfl ⟨km_X7_45, ki_X5_init⟩ cw_X5_init ⟨by decide, by decide⟩ rfl rfl (by decide) ⟨Nat.le_of_ble_eq_true rfl, Nat.le_of_ble_eq_true rfl⟩ (fun r h8 e8 => ?_)
  obtain ⟨rfl, a33, a34, a35, z8, f8⟩ := e8
  refine nX7_init_s8_91 ⟨by decide, by decide⟩ ⟨Nat.le_of_ble_eq_true rfl, Nat.le_of_ble_eq_true rfl⟩ ((f8 2 (by decide)).trans ((f7 2 (by decide)).trans ((f6 2 (by decide)).trans (f5 2 (by decide))))) (f8 23 (by decide)) a33 z8 ?_
  refine V_callIN (k := 36) (As := []) (S := [.ref 36, .ref 2]) (K_X0 rfl rfl) dX7_init_103 rfl rfl ⟨km_X7_48, ki_X0_init⟩ cw_X0_init ⟨by decide, by decide⟩ rfl rfl (by decide) ⟨Nat.le_of_ble_eq_true rfl, Nat.le_of_ble_eq_true rfl⟩ (fun r h9 e9 => ?_)
  obtain ⟨rfl, a36, a37, z9, f9⟩ := e9
  refine nX7_init_s9_106 ⟨by decide, by decide⟩ ⟨Nat.le_of_ble_eq_true rfl, Nat.le_of_ble_eq_true rfl⟩ ((f9 2 (by decide)).trans ((f8 2 (by decide)).trans ((f7 2 (by decide)).trans ((f6 2 (by decide)).trans (f5 2 (by decide)))))) z9 ?_
  refine V_callIN (k := 38) (As := []) (S := [.ref 38, .ref 2]) (K_X1 rfl rfl) dX7_init_114 rfl rfl ⟨km_X7_55, ki_X1_init⟩ cw_X1_init ⟨by decide, by decide⟩ rfl rfl (by decide) ⟨Nat.le_of_ble_eq_true rfl, Nat.le_of_ble_eq_true rfl⟩ (fun r h10 e10 => ?_)
  obtain ⟨rfl, a38, a39, a40, a41, z10, f10⟩ := e10
  refine nX7_init_s10_117 ⟨by decide, by decide⟩ ⟨Nat.le_of_ble_eq_true rfl, Nat.le_of_ble_eq_true rfl⟩ (f10 2 (by decide)) z10 ?_
  exact ⟨rfl, z10, rfl, ((f10 3 (by decide)).trans ((f9 3 (by decide)).trans ((f8 3 (by decide)).trans ((f7 3 (by decide)).trans ((f6 3 (by decide)).trans ((f5 3 (by decide)).trans ((f4 3 (by decide)).trans ((f3 3 (by decide)).trans ((f2 3 (by decide)).trans a3))))))))), ⟨pw, ((f10 4 (by decide)).trans ((f9 4 (by decide)).trans ((f8 4 (by decide)).trans ((f7 4 (by decide)).trans ((f6 4 (by decide)).trans ((f5 4 (by decide)).trans ((f4 4 (by decide)).trans ((f3 4 (by decide)).trans ((f2 4 (by decide)).trans a4))))))))), a4p⟩, ((f10 9 (by decide)).trans ((f9 9 (by decide)).trans ((f8 9 (by decide)).trans ((f7 9 (by decide)).trans ((f6 9 (by decide)).trans ((f5 9 (by decide)).trans ((f4 9 (by decide)).trans a9))))))), ⟨fc, ((f10 10 (by decide)).trans ((f9 10 (by decide)).trans ((f8 10 (by decide)).trans ((f7 10 (by decide)).trans ((f6 10 (by decide)).trans ((f5 10 (by decide)).trans ((f4 10 (by decide)).trans a10))))))), a10p⟩, ((f10 11 (by decide)).trans ((f9 11 (by decide)).trans ((f8 11 (by decide)).trans ((f7 11 (by decide)).trans ((f6 11 (by decide)).trans ((f5 11 (by decide)).trans ((f4 11 (by decide)).trans a11))))))), ((f10 12 (by decide)).trans ((f9 12 (by decide)).trans ((f8 12 (by decide)).trans ((f7 12 (by decide)).trans ((f6 12 (by decide)).trans ((f5 12 (by decide)).trans ((f4 12 (by decide)).trans a12))))))), ((f10 13 (by decide)).trans ((f9 13 (by decide)).trans ((f8 13 (by decide)).trans ((f7 13 (by decide)).trans ((f6 13 (by decide)).trans ((f5 13 (by decide)).trans ((f4 13 (by decide)).trans a13))))))), ((f10 14 (by decide)).trans ((f9 14 (by decide)).trans ((f8 14 (by decide)).trans ((f7 14 (by decide)).trans ((f6 14 (by decide)).trans ((f5 14 (by decide)).trans ((f4 14 (by decide)).trans a14))))))), ((f10 15 (by decide)).trans ((f9 15 (by decide)).trans ((f8 15 (by decide)).trans ((f7 15 (by decide)).trans ((f6 15 (by decide)).trans ((f5 15 (by decide)).trans ((f4 15 (by decide)).trans a15))))))), ((f10 16 (by decide)).trans ((f9 16 (by decide)).trans ((f8 16 (by decide)).trans ((f7 16 (by decide)).trans ((f6 16 (by decide)).trans ((f5 16 (by decide)).trans ((f4 16 (by decide)).trans a16))))))), ⟨_, ((f10 23 (by decide)).trans (f9 23 (by decide))), by decide, by decide, by decide, by decide⟩, ((f10 5 (by decide)).trans ((f9 5 (by decide)).trans ((f8 5 (by decide)).trans ((f7 5 (by decide)).trans ((f6 5 (by decide)).trans ((f5 5 (by decide)).trans ((f4 5 (by decide)).trans ((f3 5 (by decide)).trans a5)))))))), ((f10 6 (by decide)).trans ((f9 6 (by decide)).trans ((f8 6 (by decide)).trans ((f7 6 (by decide)).trans ((f6 6 (by decide)).trans ((f5 6 (by decide)).trans ((f4 6 (by decide)).trans ((f3 6 (by decide)).trans a6)))))))), ((f10 7 (by decide)).trans ((f9 7 (by decide)).trans ((f8 7 (by decide)).trans ((f7 7 (by decide)).trans ((f6 7 (by decide)).trans ((f5 7 (by decide)).trans ((f4 7 (by decide)).trans ((f3 7 (by decide)).trans a7)))))))), ((f10 8 (by decide)).trans ((f9 8 (by decide)).trans ((f8 8 (by decide)).trans ((f7 8 (by decide)).trans ((f6 8 (by decide)).trans ((f5 8 (by decide)).trans ((f4 8 (by decide)).trans ((f3 8 (by decide)).trans a8)))))))), ((f10 17 (by decide)).trans ((f9 17 (by decide)).trans ((f8 17 (by decide)).trans ((f7 17 (by decide)).trans ((f6 17 (by decide)).trans ((f5 17 (by decide)).trans a17)))))), ((f10 18 (by decide)).trans ((f9 18 (by decide)).trans ((f8 18 (by decide)).trans ((f7 18 (by decide)).trans ((f6 18 (by decide)).trans ((f5 18 (by decide)).trans a18)))))), ((f10 19 (by decide)).trans ((f9 19 (by decide)).trans ((f8 19 (by decide)).trans ((f7 19 (by decide)).trans ((f6 19 (by decide)).trans ((f5 19 (by decide)).trans a19)))))), ((f10 20 (by decide)).trans ((f9 20 (by decide)).trans ((f8 20 (by decide)).trans ((f7 20 (by decide)).trans ((f6 20 (by decide)).trans ((f5 20 (by decide)).trans a20)))))), ((f10 21 (by decide)).trans ((f9 21 (by decide)).trans ((f8 21 (by decide)).trans ((f7 21 (by decide)).trans ((f6 21 (by decide)).trans ((f5 21 (by decide)).trans a21)))))), ((f10 22 (by decide)).trans ((f9 22 (by decide)).trans ((f8 22 (by decide)).trans ((f7 22 (by decide)).trans ((f6 22 (by decide)).trans ((f5 22 (by decide)).trans a22)))))), ((f10 24 (by decide)).trans ((f9 24 (by decide)).trans ((f8 24 (by decide)).trans ((f7 24 (by decide)).trans ((f6 24 (by decide)).trans a24))))), ((f10 25 (by decide)).trans ((f9 25 (by decide)).trans ((f8 25 (by decide)).trans ((f7 25 (by decide)).trans ((f6 25 (by decide)).trans a25))))), ((f10 26 (by decide)).trans ((f9 26 (by decide)).trans ((f8 26 (by decide)).trans ((f7 26 (by decide)).trans ((f6 26 (by decide)).trans a26))))), ((f10 27 (by decide)).trans ((f9 27 (by decide)).trans ((f8 27 (by decide)).trans ((f7 27 (by decide)).trans a27)))), ((f10 28 (by decide)).trans ((f9 28 (by decide)).trans ((f8 28 (by decide)).trans ((f7 28 (by decide)).trans a28)))), ((f10 29 (by decide)).trans ((f9 29 (by decide)).trans ((f8 29 (by decide)).trans ((f7 29 (by decide)).trans a29)))), ((f10 30 (by decide)).trans ((f9 30 (by decide)).trans ((f8 30 (by decide)).trans a30))), ((f10 31 (by decide)).trans ((f9 31 (by decide)).trans ((f8 31 (by decide)).trans a31))), ((f10 32 (by decide)).trans ((f9 32 (by decide)).trans ((f8 32 (by decide)).trans a32))), ((f10 33 (by decide)).trans ((f9 33 (by decide)).trans a33)), ((f10 34 (by decide)).trans ((f9 34 (by decide)).trans a34)), ((f10 35 (by decide)).trans ((f9 35 (by decide)).trans a35)), ((f10 36 (by decide)).trans a36), ((f10 37 (by decide)).trans a37), a38, a39, a40, a41⟩
