/-! the constructors, piece by piece -/
theorem nn_4 : ¬ (4 : Int32) < 0 := by decide +kernel
theorem nc_4 : (4 : Int32).toNatClampNeg = 4 := nI_clamp (n := 4) (by decide)
theorem nn_5 : ¬ (5 : Int32) < 0 := by decide +kernel
theorem nc_5 : (5 : Int32).toNatClampNeg = 5 := nI_clamp (n := 5) (by decide)
theorem nn_14 : ¬ (14 : Int32) < 0 := by decide +kernel
theorem nc_14 : (14 : Int32).toNatClampNeg = 14 := nI_clamp (n := 14) (by decide)
theorem nn_15 : ¬ (15 : Int32) < 0 := by decide +kernel
theorem nc_15 : (15 : Int32).toNatClampNeg = 15 := nI_clamp (n := 15) (by decide)
theorem nn_200 : ¬ (200 : Int32) < 0 := by decide +kernel
theorem nc_200 : (200 : Int32).toNatClampNeg = 200 := nI_clamp (n := 200) (by decide)
theorem nn_201 : ¬ (201 : Int32) < 0 := by decide +kernel
theorem nc_201 : (201 : Int32).toNatClampNeg = 201 := nI_clamp (n := 201) (by decide)
theorem nn_202 : ¬ (202 : Int32) < 0 := by decide +kernel
theorem nc_202 : (202 : Int32).toNatClampNeg = 202 := nI_clamp (n := 202) (by decide)
theorem nn_400 : ¬ (400 : Int32) < 0 := by decide +kernel
theorem nc_400 : (400 : Int32).toNatClampNeg = 400 := nI_clamp (n := 400) (by decide)
theorem nn_401 : ¬ (401 : Int32) < 0 := by decide +kernel
theorem nc_401 : (401 : Int32).toNatClampNeg = 401 := nI_clamp (n := 401) (by decide)
theorem nn_800 : ¬ (800 : Int32) < 0 := by decide +kernel
theorem nc_800 : (800 : Int32).toNatClampNeg = 800 := nI_clamp (n := 800) (by decide)
theorem nn_20000 : ¬ (20000 : Int32) < 0 := by decide +kernel
theorem nc_20000 : (20000 : Int32).toNatClampNeg = 20000 := nI_clamp (n := 20000) (by decide)
theorem nn_40602 : ¬ (40602 : Int32) < 0 := by decide +kernel
theorem nc_40602 : (40602 : Int32).toNatClampNeg = 40602 := nI_clamp (n := 40602) (by decide)
theorem kn_X0 : Cond.instantiable RX0 2 ∈ gw := tb_in (List.mem_of_getElem? (i := 211) (by decide +kernel)) rfl
theorem kn_X1 : Cond.instantiable RX1 5 ∈ gw := tb_in (List.mem_of_getElem? (i := 226) (by decide +kernel)) rfl
theorem kn_X2 : Cond.instantiable RX2 14 ∈ gw := tb_in (List.mem_of_getElem? (i := 87) (by decide +kernel)) rfl
theorem kn_X3 : Cond.instantiable RX3 4 ∈ gw := tb_in (List.mem_of_getElem? (i := 68) (by decide +kernel)) rfl
theorem kn_X4 : Cond.instantiable RX4 8 ∈ gw := tb_in (List.mem_of_getElem? (i := 148) (by decide +kernel)) rfl
theorem kn_X5 : Cond.instantiable RX5 5 ∈ gw := tb_in (List.mem_of_getElem? (i := 186) (by decide +kernel)) rfl
theorem kn_X6 : Cond.instantiable RX6 5 ∈ gw := tb_in (List.mem_of_getElem? (i := 23) (by decide +kernel)) rfl
theorem kn_X7 : Cond.instantiable RX7 9 ∈ gw := tb_in (List.mem_of_getElem? (i := 15) (by decide +kernel)) rfl
theorem kn_X8 : Cond.instantiable RX8 33 ∈ gw := tb_in (List.mem_of_getElem? (i := 785) (by decide +kernel)) rfl
theorem kar_int : Cond.arrayClass .int ∈ gw := tb_in (List.mem_of_getElem? (i := 66) (by decide +kernel)) rfl
theorem kar_byte : Cond.arrayClass .byte ∈ gw := tb_in (List.mem_of_getElem? (i := 182) (by decide +kernel)) rfl
theorem kar_boolean : Cond.arrayClass .boolean ∈ gw := tb_in (List.mem_of_getElem? (i := 913) (by decide +kernel)) rfl
theorem kar_long : Cond.arrayClass .long ∈ gw := tb_in (List.mem_of_getElem? (i := 183) (by decide +kernel)) rfl
theorem koi : Cond.instanceMethod objectInit ∈ gw := tb_in (List.mem_of_getElem? (i := 20) (by decide +kernel)) rfl
theorem koc : Cond.code objectInit ⟨#[0xb1]⟩ 1 none ∈ gw := tb_in (List.mem_of_getElem? (i := 21) (by decide +kernel)) rfl
set_option maxRecDepth 100000 in
theorem nX6_init_0 {G : gx} {d mc ms c z : Nat} {h : ah} {Q : Option Value → ah → Prop} (hd9 : 1 ≤ d ∧ d ≤ 9) (hr : c + 1 ≤ mc ∧ z + 15 ≤ ms) (g3 : h 3 = (6, .inl [.null, .int (0 : Int32), .int (0 : Int32), .int (0 : Int32), .int (0 : Int32)])) (g0 : (h 0).1 = 2) (q1 : V G mX6_init (d, mc, ms, c + 1, z + 15) 15 [some (.ref 3)] [.int (3 : Int32), .int (2 : Int32), .ref 3] (va_up (va_up (va_up h 4 (0, .inr (15, .inl (fun _ => 0)))) 0 (3, .inl [])) 3 (6, .inl [.ref 4, .int (0 : Int32), .int (0 : Int32), .int (0 : Int32), .int (0 : Int32)])) Q) : V G mX6_init (d, mc, ms, c, z) 0 [some (.ref 3)] [] h Q := by
  obtain ⟨hr1, hr2⟩ := hr
  refine V_aload_n dX6_init_0 rfl rfl ?_
  refine V_obj dX6_init_1 km_X6_3 koi koc hd9 (by decide) ?_
  refine V_aload_n dX6_init_4 rfl rfl ?_
  refine V_bipush dX6_init_5 bp_15 ?_
  refine V_newI (N := 2) (n := 15) dX6_init_7 kar_int nn_15 nc_15 (by decide) g0 ⟨by omega, by omega⟩ ?_
  refine V_putF (ci := 6) (j := 0) (C0 := RX6) (T := TX6) (N := 5) (ty := .array .int) dX6_init_9 rfl g3 (by decide) (by decide) kf_X6_9 rfl rfl rfl (by decide +kernel) rfl rfl (Nat.le_of_ble_eq_true rfl) ?_
  refine V_aload_n dX6_init_12 rfl rfl ?_
  refine V_iconst dX6_init_13 ic_2 ?_
  refine V_iconst dX6_init_14 ic_3 ?_
  exact q1
set_option maxRecDepth 100000 in
theorem nX3_init_0 {G : gx} {d mc ms c z : Nat} {h : ah} {Q : Option Value → ah → Prop} (hd9 : 1 ≤ d ∧ d ≤ 9) (hr : c + 3 ≤ mc ∧ z + 34 ≤ ms) (g5 : h 5 = (3, .inl [.null, .null, .null, .null])) (g0 : (h 0).1 = 4) (q1 : Q none (va_up (va_up (va_up (va_up (va_up (va_up (va_up (va_up (va_up (va_up h 6 (0, .inr (14, .inl (fun _ => 0)))) 0 (5, .inl [])) 5 (3, .inl [.null, .ref 6, .null, .null])) 7 (0, .inr (15, .inl (fun _ => 0)))) 0 (6, .inl [])) 5 (3, .inl [.null, .ref 6, .ref 7, .null])) 8 (0, .inr (5, .inl (fun _ => 0)))) 0 (7, .inl [])) 5 (3, .inl [.null, .ref 6, .ref 7, .ref 8])) 5 (3, .inl [.ref 3, .ref 6, .ref 7, .ref 8]))) : V G mX3_init (d, mc, ms, c, z) 0 [some (.ref 5), some (.ref 3)] [] h Q := by
  obtain ⟨hr1, hr2⟩ := hr
  refine V_aload_n dX3_init_0 rfl rfl ?_
  refine V_obj dX3_init_1 km_X3_3 koi koc hd9 (by decide) ?_
  refine V_aload_n dX3_init_4 rfl rfl ?_
  refine V_bipush dX3_init_5 bp_14 ?_
  refine V_newI (N := 4) (n := 14) dX3_init_7 kar_int nn_14 nc_14 (by decide) g0 ⟨by omega, by omega⟩ ?_
  refine V_putF (ci := 3) (j := 1) (C0 := RX3) (T := TX3) (N := 4) (ty := .array .int) dX3_init_9 rfl g5 (by decide) (by decide) kf_X3_9 rfl rfl rfl (by decide +kernel) rfl rfl (Nat.le_of_ble_eq_true rfl) ?_
  refine V_aload_n dX3_init_12 rfl rfl ?_
  refine V_bipush dX3_init_13 bp_15 ?_
  refine V_newI (N := 5) (n := 15) dX3_init_15 kar_int nn_15 nc_15 (by decide) rfl ⟨by omega, by omega⟩ ?_
  refine V_putF (ci := 3) (j := 2) (C0 := RX3) (T := TX3) (N := 4) (ty := .array .int) dX3_init_17 rfl rfl (by decide) (by decide) kf_X3_15 rfl rfl rfl (by decide +kernel) rfl rfl (Nat.le_of_ble_eq_true rfl) ?_
  refine V_aload_n dX3_init_20 rfl rfl ?_
  refine V_iconst dX3_init_21 ic_5 ?_
  refine V_newI (N := 6) (n := 5) dX3_init_22 kar_int nn_5 nc_5 (by decide) rfl ⟨by omega, by omega⟩ ?_
  refine V_putF (ci := 3) (j := 3) (C0 := RX3) (T := TX3) (N := 4) (ty := .array .int) dX3_init_24 rfl rfl (by decide) (by decide) kf_X3_18 rfl rfl rfl (by decide +kernel) rfl rfl (Nat.le_of_ble_eq_true rfl) ?_
  refine V_aload_n dX3_init_27 rfl rfl ?_
  refine V_aload_n dX3_init_28 rfl rfl ?_
  refine V_putF (ci := 3) (j := 0) (C0 := RX3) (T := TX3) (N := 4) (ty := .object "WordWheel$Words") dX3_init_29 rfl rfl (by decide) (by decide) kf_X3_21 rfl rfl rfl (by decide +kernel) rfl rfl (Nat.le_of_ble_eq_true rfl) ?_
  exact V_vret dX3_init_32 rfl (q1)
set_option maxRecDepth 100000 in
theorem nX2_init_0 {G : gx} {d mc ms c z : Nat} {h : ah} {Q : Option Value → ah → Prop} (hd9 : 1 ≤ d ∧ d ≤ 9) (hr : c + 7 ≤ mc ∧ z + 61215 ≤ ms) (g9 : h 9 = (2, .inl [.null, .null, .int (0 : Int32), .null, .null, .int (0 : Int32), .null, .int (0 : Int32), .null, .null, .int (0 : Int32), .int (0 : Int32), .int (0 : Int32), .null])) (g0 : (h 0).1 = 8) (q1 : V G mX2_init (d, mc, ms, c + 1 + 1 + 1 + 1 + 1 + 1 + 1, z + 14 + 400 + 400 + 20000 + 20000 + 20000 + 401) 72 [some (.ref 9), some (.ref 3)] [.ref 9] (va_up (va_up (va_up (va_up (va_up (va_up (va_up (va_up (va_up (va_up (va_up (va_up (va_up (va_up (va_up (va_up (va_up (va_up (va_up (va_up (va_up (va_up h 10 (0, .inr (14, .inl (fun _ => 0)))) 0 (9, .inl [])) 9 (2, .inl [.null, .ref 10, .int (0 : Int32), .null, .null, .int (0 : Int32), .null, .int (0 : Int32), .null, .null, .int (0 : Int32), .int (0 : Int32), .int (0 : Int32), .null])) 11 (0, .inr (400, .inl (fun _ => 0)))) 0 (10, .inl [])) 9 (2, .inl [.null, .ref 10, .int (0 : Int32), .ref 11, .null, .int (0 : Int32), .null, .int (0 : Int32), .null, .null, .int (0 : Int32), .int (0 : Int32), .int (0 : Int32), .null])) 12 (0, .inr (400, .inl (fun _ => 0)))) 0 (11, .inl [])) 9 (2, .inl [.null, .ref 10, .int (0 : Int32), .ref 11, .ref 12, .int (0 : Int32), .null, .int (0 : Int32), .null, .null, .int (0 : Int32), .int (0 : Int32), .int (0 : Int32), .null])) 13 (0, .inr (20000, .inl (fun _ => 0)))) 0 (12, .inl [])) 9 (2, .inl [.null, .ref 10, .int (0 : Int32), .ref 11, .ref 12, .int (0 : Int32), .ref 13, .int (0 : Int32), .null, .null, .int (0 : Int32), .int (0 : Int32), .int (0 : Int32), .null])) 14 (0, .inr (20000, .inl (fun _ => 0)))) 0 (13, .inl [])) 9 (2, .inl [.null, .ref 10, .int (0 : Int32), .ref 11, .ref 12, .int (0 : Int32), .ref 13, .int (0 : Int32), .ref 14, .null, .int (0 : Int32), .int (0 : Int32), .int (0 : Int32), .null])) 15 (0, .inr (20000, .inl (fun _ => 0)))) 0 (14, .inl [])) 9 (2, .inl [.null, .ref 10, .int (0 : Int32), .ref 11, .ref 12, .int (0 : Int32), .ref 13, .int (0 : Int32), .ref 14, .ref 15, .int (0 : Int32), .int (0 : Int32), .int (0 : Int32), .null])) 16 (0, .inr (401, .inl (fun _ => 0)))) 0 (15, .inl [])) 9 (2, .inl [.null, .ref 10, .int (0 : Int32), .ref 11, .ref 12, .int (0 : Int32), .ref 13, .int (0 : Int32), .ref 14, .ref 15, .int (0 : Int32), .int (0 : Int32), .int (0 : Int32), .ref 16])) 9 (2, .inl [.ref 3, .ref 10, .int (0 : Int32), .ref 11, .ref 12, .int (0 : Int32), .ref 13, .int (0 : Int32), .ref 14, .ref 15, .int (0 : Int32), .int (0 : Int32), .int (0 : Int32), .ref 16])) Q) : V G mX2_init (d, mc, ms, c, z) 0 [some (.ref 9), some (.ref 3)] [] h Q := by
  obtain ⟨hr1, hr2⟩ := hr
  refine V_aload_n dX2_init_0 rfl rfl ?_
  refine V_obj dX2_init_1 km_X2_3 koi koc hd9 (by decide) ?_
  refine V_aload_n dX2_init_4 rfl rfl ?_
  refine V_bipush dX2_init_5 bp_14 ?_
  refine V_newI (N := 8) (n := 14) dX2_init_7 kar_int nn_14 nc_14 (by decide) g0 ⟨by omega, by omega⟩ ?_
  refine V_putF (ci := 2) (j := 1) (C0 := RX2) (T := TX2) (N := 14) (ty := .array .int) dX2_init_9 rfl g9 (by decide) (by decide) kf_X2_9 rfl rfl rfl (by decide +kernel) rfl rfl (Nat.le_of_ble_eq_true rfl) ?_
  refine V_aload_n dX2_init_12 rfl rfl ?_
  refine V_sipush dX2_init_13 sp_400 ?_
  refine V_newI (N := 9) (n := 400) dX2_init_16 kar_int nn_400 nc_400 (by decide) rfl ⟨by omega, by omega⟩ ?_
  refine V_putF (ci := 2) (j := 3) (C0 := RX2) (T := TX2) (N := 14) (ty := .array .int) dX2_init_18 rfl rfl (by decide) (by decide) kf_X2_15 rfl rfl rfl (by decide +kernel) rfl rfl (Nat.le_of_ble_eq_true rfl) ?_
  refine V_aload_n dX2_init_21 rfl rfl ?_
  refine V_sipush dX2_init_22 sp_400 ?_
  refine V_newI (N := 10) (n := 400) dX2_init_25 kar_int nn_400 nc_400 (by decide) rfl ⟨by omega, by omega⟩ ?_
  refine V_putF (ci := 2) (j := 4) (C0 := RX2) (T := TX2) (N := 14) (ty := .array .int) dX2_init_27 rfl rfl (by decide) (by decide) kf_X2_18 rfl rfl rfl (by decide +kernel) rfl rfl (Nat.le_of_ble_eq_true rfl) ?_
  refine V_aload_n dX2_init_30 rfl rfl ?_
  refine V_sipush dX2_init_31 sp_20000 ?_
  refine V_newI (N := 11) (n := 20000) dX2_init_34 kar_int nn_20000 nc_20000 (by decide) rfl ⟨by omega, by omega⟩ ?_
  refine V_putF (ci := 2) (j := 6) (C0 := RX2) (T := TX2) (N := 14) (ty := .array .int) dX2_init_36 rfl rfl (by decide) (by decide) kf_X2_21 rfl rfl rfl (by decide +kernel) rfl rfl (Nat.le_of_ble_eq_true rfl) ?_
  refine V_aload_n dX2_init_39 rfl rfl ?_
  refine V_sipush dX2_init_40 sp_20000 ?_
  refine V_newI (N := 12) (n := 20000) dX2_init_43 kar_int nn_20000 nc_20000 (by decide) rfl ⟨by omega, by omega⟩ ?_
  refine V_putF (ci := 2) (j := 8) (C0 := RX2) (T := TX2) (N := 14) (ty := .array .int) dX2_init_45 rfl rfl (by decide) (by decide) kf_X2_24 rfl rfl rfl (by decide +kernel) rfl rfl (Nat.le_of_ble_eq_true rfl) ?_
  refine V_aload_n dX2_init_48 rfl rfl ?_
  refine V_sipush dX2_init_49 sp_20000 ?_
  refine V_newI (N := 13) (n := 20000) dX2_init_52 kar_int nn_20000 nc_20000 (by decide) rfl ⟨by omega, by omega⟩ ?_
  refine V_putF (ci := 2) (j := 9) (C0 := RX2) (T := TX2) (N := 14) (ty := .array .int) dX2_init_54 rfl rfl (by decide) (by decide) kf_X2_27 rfl rfl rfl (by decide +kernel) rfl rfl (Nat.le_of_ble_eq_true rfl) ?_
  refine V_aload_n dX2_init_57 rfl rfl ?_
  refine V_sipush dX2_init_58 sp_401 ?_
  refine V_newI (N := 14) (n := 401) dX2_init_61 kar_int nn_401 nc_401 (by decide) rfl ⟨by omega, by omega⟩ ?_
  refine V_putF (ci := 2) (j := 13) (C0 := RX2) (T := TX2) (N := 14) (ty := .array .int) dX2_init_63 rfl rfl (by decide) (by decide) kf_X2_30 rfl rfl rfl (by decide +kernel) rfl rfl (Nat.le_of_ble_eq_true rfl) ?_
  refine V_aload_n dX2_init_66 rfl rfl ?_
  refine V_aload_n dX2_init_67 rfl rfl ?_
  refine V_putF (ci := 2) (j := 0) (C0 := RX2) (T := TX2) (N := 14) (ty := .object "WordWheel$Words") dX2_init_68 rfl rfl (by decide) (by decide) kf_X2_33 rfl rfl rfl (by decide +kernel) rfl rfl (Nat.le_of_ble_eq_true rfl) ?_
  refine V_aload_n dX2_init_71 rfl rfl ?_
  exact q1
set_option maxRecDepth 100000 in
theorem nX4_init_0 {G : gx} {d mc ms c z : Nat} {h : ah} {Q : Option Value → ah → Prop} (hd9 : 1 ≤ d ∧ d ≤ 9) (hr : c + 5 ≤ mc ∧ z + 40024 ≤ ms) (g17 : h 17 = (4, .inl [.null, .null, .null, .int (0 : Int32), .null, .null, .null, .int (0 : Int32)])) (g0 : (h 0).1 = 16) (q1 : Q none (va_up (va_up (va_up (va_up (va_up (va_up (va_up (va_up (va_up (va_up (va_up (va_up (va_up (va_up (va_up (va_up (va_up (va_up h 18 (1, .inr (20000, .inl (fun _ => 0)))) 0 (17, .inl [])) 17 (4, .inl [.null, .ref 18, .null, .int (0 : Int32), .null, .null, .null, .int (0 : Int32)])) 19 (0, .inr (20000, .inl (fun _ => 0)))) 0 (18, .inl [])) 17 (4, .inl [.null, .ref 18, .ref 19, .int (0 : Int32), .null, .null, .null, .int (0 : Int32)])) 17 (4, .inl [.null, .ref 18, .ref 19, .int (-1 : Int32), .null, .null, .null, .int (0 : Int32)])) 20 (0, .inr (14, .inl (fun _ => 0)))) 0 (19, .inl [])) 17 (4, .inl [.null, .ref 18, .ref 19, .int (-1 : Int32), .ref 20, .null, .null, .int (0 : Int32)])) 21 (3, .inr (5, .inr (.inl (fun _ => 0))))) 0 (20, .inl [])) 17 (4, .inl [.null, .ref 18, .ref 19, .int (-1 : Int32), .ref 20, .ref 21, .null, .int (0 : Int32)])) 22 (3, .inr (5, .inr (.inl (fun _ => 0))))) 0 (21, .inl [])) 17 (4, .inl [.null, .ref 18, .ref 19, .int (-1 : Int32), .ref 20, .ref 21, .ref 22, .int (0 : Int32)])) 17 (4, .inl [.null, .ref 18, .ref 19, .int (-1 : Int32), .ref 20, .ref 21, .ref 22, .int (-1 : Int32)])) 17 (4, .inl [.ref 3, .ref 18, .ref 19, .int (-1 : Int32), .ref 20, .ref 21, .ref 22, .int (-1 : Int32)]))) : V G mX4_init (d, mc, ms, c, z) 0 [some (.ref 17), some (.ref 3)] [] h Q := by
  obtain ⟨hr1, hr2⟩ := hr
  refine V_aload_n dX4_init_0 rfl rfl ?_
  refine V_obj dX4_init_1 km_X4_3 koi koc hd9 (by decide) ?_
  refine V_aload_n dX4_init_4 rfl rfl ?_
  refine V_sipush dX4_init_5 sp_20000 ?_
  refine V_newB (N := 16) (n := 20000) dX4_init_8 kar_byte nn_20000 nc_20000 (by decide) g0 ⟨by omega, by omega⟩ ?_
  refine V_putF (ci := 4) (j := 1) (C0 := RX4) (T := TX4) (N := 8) (ty := .array .byte) dX4_init_10 rfl g17 (by decide) (by decide) kf_X4_9 rfl rfl rfl (by decide +kernel) rfl rfl (Nat.le_of_ble_eq_true rfl) ?_
  refine V_aload_n dX4_init_13 rfl rfl ?_
  refine V_sipush dX4_init_14 sp_20000 ?_
  refine V_newI (N := 17) (n := 20000) dX4_init_17 kar_int nn_20000 nc_20000 (by decide) rfl ⟨by omega, by omega⟩ ?_
  refine V_putF (ci := 4) (j := 2) (C0 := RX4) (T := TX4) (N := 8) (ty := .array .int) dX4_init_19 rfl rfl (by decide) (by decide) kf_X4_15 rfl rfl rfl (by decide +kernel) rfl rfl (Nat.le_of_ble_eq_true rfl) ?_
  refine V_aload_n dX4_init_22 rfl rfl ?_
  refine V_iconst dX4_init_23 ic_m1 ?_
  refine V_put (ci := 4) (j := 3) (C0 := RX4) (T := TX4) (N := 8) (ty := .int) dX4_init_24 rfl rfl (by decide) (by decide) kf_X4_19 rfl (by decide +kernel) rfl rfl (Nat.le_of_ble_eq_true rfl) ?_
  refine V_aload_n dX4_init_27 rfl rfl ?_
  refine V_bipush dX4_init_28 bp_14 ?_
  refine V_newI (N := 18) (n := 14) dX4_init_30 kar_int nn_14 nc_14 (by decide) rfl ⟨by omega, by omega⟩ ?_
  refine V_putF (ci := 4) (j := 4) (C0 := RX4) (T := TX4) (N := 8) (ty := .array .int) dX4_init_32 rfl rfl (by decide) (by decide) kf_X4_23 rfl rfl rfl (by decide +kernel) rfl rfl (Nat.le_of_ble_eq_true rfl) ?_
  refine V_aload_n dX4_init_35 rfl rfl ?_
  refine V_iconst dX4_init_36 ic_5 ?_
  refine V_newJ (N := 19) (n := 5) dX4_init_37 kar_long nn_5 nc_5 (by decide) rfl ⟨by omega, by omega⟩ ?_
  refine V_putF (ci := 4) (j := 5) (C0 := RX4) (T := TX4) (N := 8) (ty := .array .long) dX4_init_39 rfl rfl (by decide) (by decide) kf_X4_26 rfl rfl rfl (by decide +kernel) rfl rfl (Nat.le_of_ble_eq_true rfl) ?_
  refine V_aload_n dX4_init_42 rfl rfl ?_
  refine V_iconst dX4_init_43 ic_5 ?_
  refine V_newJ (N := 20) (n := 5) dX4_init_44 kar_long nn_5 nc_5 (by decide) rfl ⟨by omega, by omega⟩ ?_
  refine V_putF (ci := 4) (j := 6) (C0 := RX4) (T := TX4) (N := 8) (ty := .array .long) dX4_init_46 rfl rfl (by decide) (by decide) kf_X4_30 rfl rfl rfl (by decide +kernel) rfl rfl (Nat.le_of_ble_eq_true rfl) ?_
  refine V_aload_n dX4_init_49 rfl rfl ?_
  refine V_iconst dX4_init_50 ic_m1 ?_
  refine V_put (ci := 4) (j := 7) (C0 := RX4) (T := TX4) (N := 8) (ty := .int) dX4_init_51 rfl rfl (by decide) (by decide) kf_X4_33 rfl (by decide +kernel) rfl rfl (Nat.le_of_ble_eq_true rfl) ?_
  refine V_aload_n dX4_init_54 rfl rfl ?_
  refine V_aload_n dX4_init_55 rfl rfl ?_
  refine V_putF (ci := 4) (j := 0) (C0 := RX4) (T := TX4) (N := 8) (ty := .object "WordWheel$Words") dX4_init_56 rfl rfl (by decide) (by decide) kf_X4_36 rfl rfl rfl (by decide +kernel) rfl rfl (Nat.le_of_ble_eq_true rfl) ?_
  exact V_vret dX4_init_59 rfl (q1)
set_option maxRecDepth 100000 in
theorem nX5_init0_0 {G : gx} {d mc ms c z : Nat} {h : ah} {Q : Option Value → ah → Prop} (hd9 : 1 ≤ d ∧ d ≤ 9) (hr : c + 2 ≤ mc ∧ z + 400 ≤ ms) (g24 : h 24 = (5, .inl [.null, .null, .int (0 : Int32), .int (0 : Int32), .null])) (g0 : (h 0).1 = 23) (q1 : Q none (va_up (va_up (va_up (va_up (va_up (va_up (va_up (va_up h 25 (0, .inr (200, .inl (fun _ => 0)))) 0 (24, .inl [])) 24 (5, .inl [.null, .ref 25, .int (0 : Int32), .int (0 : Int32), .null])) 24 (5, .inl [.null, .ref 25, .int (-1 : Int32), .int (0 : Int32), .null])) 26 (0, .inr (200, .inl (fun _ => 0)))) 0 (25, .inl [])) 24 (5, .inl [.null, .ref 25, .int (-1 : Int32), .int (0 : Int32), .ref 26])) 24 (5, .inl [.ref 3, .ref 25, .int (-1 : Int32), .int (0 : Int32), .ref 26]))) : V G mX5_init (d, mc, ms, c, z) 0 [some (.ref 24), some (.ref 3)] [] h Q := by
  obtain ⟨hr1, hr2⟩ := hr
  refine V_aload_n dX5_init_0 rfl rfl ?_
  refine V_obj dX5_init_1 km_X5_3 koi koc hd9 (by decide) ?_
  refine V_aload_n dX5_init_4 rfl rfl ?_
  refine V_sipush dX5_init_5 sp_200 ?_
  refine V_newI (N := 23) (n := 200) dX5_init_8 kar_int nn_200 nc_200 (by decide) g0 ⟨by omega, by omega⟩ ?_
  refine V_putF (ci := 5) (j := 1) (C0 := RX5) (T := TX5) (N := 5) (ty := .array .int) dX5_init_10 rfl g24 (by decide) (by decide) kf_X5_9 rfl rfl rfl (by decide +kernel) rfl rfl (Nat.le_of_ble_eq_true rfl) ?_
  refine V_aload_n dX5_init_13 rfl rfl ?_
  refine V_iconst dX5_init_14 ic_m1 ?_
  refine V_put (ci := 5) (j := 2) (C0 := RX5) (T := TX5) (N := 5) (ty := .int) dX5_init_15 rfl rfl (by decide) (by decide) kf_X5_15 rfl (by decide +kernel) rfl rfl (Nat.le_of_ble_eq_true rfl) ?_
  refine V_aload_n dX5_init_18 rfl rfl ?_
  refine V_sipush dX5_init_19 sp_200 ?_
  refine V_newI (N := 24) (n := 200) dX5_init_22 kar_int nn_200 nc_200 (by decide) rfl ⟨by omega, by omega⟩ ?_
  refine V_putF (ci := 5) (j := 4) (C0 := RX5) (T := TX5) (N := 5) (ty := .array .int) dX5_init_24 rfl rfl (by decide) (by decide) kf_X5_19 rfl rfl rfl (by decide +kernel) rfl rfl (Nat.le_of_ble_eq_true rfl) ?_
  refine V_aload_n dX5_init_27 rfl rfl ?_
  refine V_aload_n dX5_init_28 rfl rfl ?_
  refine V_putF (ci := 5) (j := 0) (C0 := RX5) (T := TX5) (N := 5) (ty := .object "WordWheel$Words") dX5_init_29 rfl rfl (by decide) (by decide) kf_X5_22 rfl rfl rfl (by decide +kernel) rfl rfl (Nat.le_of_ble_eq_true rfl) ?_
  exact V_vret dX5_init_32 rfl (q1)
set_option maxRecDepth 100000 in
theorem nX5_init1_0 {G : gx} {d mc ms c z : Nat} {h : ah} {Q : Option Value → ah → Prop} (hd9 : 1 ≤ d ∧ d ≤ 9) (hr : c + 2 ≤ mc ∧ z + 400 ≤ ms) (g27 : h 27 = (5, .inl [.null, .null, .int (0 : Int32), .int (0 : Int32), .null])) (g0 : (h 0).1 = 26) (q1 : Q none (va_up (va_up (va_up (va_up (va_up (va_up (va_up (va_up h 28 (0, .inr (200, .inl (fun _ => 0)))) 0 (27, .inl [])) 27 (5, .inl [.null, .ref 28, .int (0 : Int32), .int (0 : Int32), .null])) 27 (5, .inl [.null, .ref 28, .int (-1 : Int32), .int (0 : Int32), .null])) 29 (0, .inr (200, .inl (fun _ => 0)))) 0 (28, .inl [])) 27 (5, .inl [.null, .ref 28, .int (-1 : Int32), .int (0 : Int32), .ref 29])) 27 (5, .inl [.ref 3, .ref 28, .int (-1 : Int32), .int (0 : Int32), .ref 29]))) : V G mX5_init (d, mc, ms, c, z) 0 [some (.ref 27), some (.ref 3)] [] h Q := by
  obtain ⟨hr1, hr2⟩ := hr
  refine V_aload_n dX5_init_0 rfl rfl ?_
  refine V_obj dX5_init_1 km_X5_3 koi koc hd9 (by decide) ?_
  refine V_aload_n dX5_init_4 rfl rfl ?_
  refine V_sipush dX5_init_5 sp_200 ?_
  refine V_newI (N := 26) (n := 200) dX5_init_8 kar_int nn_200 nc_200 (by decide) g0 ⟨by omega, by omega⟩ ?_
  refine V_putF (ci := 5) (j := 1) (C0 := RX5) (T := TX5) (N := 5) (ty := .array .int) dX5_init_10 rfl g27 (by decide) (by decide) kf_X5_9 rfl rfl rfl (by decide +kernel) rfl rfl (Nat.le_of_ble_eq_true rfl) ?_
  refine V_aload_n dX5_init_13 rfl rfl ?_
  refine V_iconst dX5_init_14 ic_m1 ?_
  refine V_put (ci := 5) (j := 2) (C0 := RX5) (T := TX5) (N := 5) (ty := .int) dX5_init_15 rfl rfl (by decide) (by decide) kf_X5_15 rfl (by decide +kernel) rfl rfl (Nat.le_of_ble_eq_true rfl) ?_
  refine V_aload_n dX5_init_18 rfl rfl ?_
  refine V_sipush dX5_init_19 sp_200 ?_
  refine V_newI (N := 27) (n := 200) dX5_init_22 kar_int nn_200 nc_200 (by decide) rfl ⟨by omega, by omega⟩ ?_
  refine V_putF (ci := 5) (j := 4) (C0 := RX5) (T := TX5) (N := 5) (ty := .array .int) dX5_init_24 rfl rfl (by decide) (by decide) kf_X5_19 rfl rfl rfl (by decide +kernel) rfl rfl (Nat.le_of_ble_eq_true rfl) ?_
  refine V_aload_n dX5_init_27 rfl rfl ?_
  refine V_aload_n dX5_init_28 rfl rfl ?_
  refine V_putF (ci := 5) (j := 0) (C0 := RX5) (T := TX5) (N := 5) (ty := .object "WordWheel$Words") dX5_init_29 rfl rfl (by decide) (by decide) kf_X5_22 rfl rfl rfl (by decide +kernel) rfl rfl (Nat.le_of_ble_eq_true rfl) ?_
  exact V_vret dX5_init_32 rfl (q1)
set_option maxRecDepth 100000 in
theorem nX5_init2_0 {G : gx} {d mc ms c z : Nat} {h : ah} {Q : Option Value → ah → Prop} (hd9 : 1 ≤ d ∧ d ≤ 9) (hr : c + 2 ≤ mc ∧ z + 400 ≤ ms) (g30 : h 30 = (5, .inl [.null, .null, .int (0 : Int32), .int (0 : Int32), .null])) (g0 : (h 0).1 = 29) (q1 : Q none (va_up (va_up (va_up (va_up (va_up (va_up (va_up (va_up h 31 (0, .inr (200, .inl (fun _ => 0)))) 0 (30, .inl [])) 30 (5, .inl [.null, .ref 31, .int (0 : Int32), .int (0 : Int32), .null])) 30 (5, .inl [.null, .ref 31, .int (-1 : Int32), .int (0 : Int32), .null])) 32 (0, .inr (200, .inl (fun _ => 0)))) 0 (31, .inl [])) 30 (5, .inl [.null, .ref 31, .int (-1 : Int32), .int (0 : Int32), .ref 32])) 30 (5, .inl [.ref 3, .ref 31, .int (-1 : Int32), .int (0 : Int32), .ref 32]))) : V G mX5_init (d, mc, ms, c, z) 0 [some (.ref 30), some (.ref 3)] [] h Q := by
  obtain ⟨hr1, hr2⟩ := hr
  refine V_aload_n dX5_init_0 rfl rfl ?_
  refine V_obj dX5_init_1 km_X5_3 koi koc hd9 (by decide) ?_
  refine V_aload_n dX5_init_4 rfl rfl ?_
  refine V_sipush dX5_init_5 sp_200 ?_
  refine V_newI (N := 29) (n := 200) dX5_init_8 kar_int nn_200 nc_200 (by decide) g0 ⟨by omega, by omega⟩ ?_
  refine V_putF (ci := 5) (j := 1) (C0 := RX5) (T := TX5) (N := 5) (ty := .array .int) dX5_init_10 rfl g30 (by decide) (by decide) kf_X5_9 rfl rfl rfl (by decide +kernel) rfl rfl (Nat.le_of_ble_eq_true rfl) ?_
  refine V_aload_n dX5_init_13 rfl rfl ?_
  refine V_iconst dX5_init_14 ic_m1 ?_
  refine V_put (ci := 5) (j := 2) (C0 := RX5) (T := TX5) (N := 5) (ty := .int) dX5_init_15 rfl rfl (by decide) (by decide) kf_X5_15 rfl (by decide +kernel) rfl rfl (Nat.le_of_ble_eq_true rfl) ?_
  refine V_aload_n dX5_init_18 rfl rfl ?_
  refine V_sipush dX5_init_19 sp_200 ?_
  refine V_newI (N := 30) (n := 200) dX5_init_22 kar_int nn_200 nc_200 (by decide) rfl ⟨by omega, by omega⟩ ?_
  refine V_putF (ci := 5) (j := 4) (C0 := RX5) (T := TX5) (N := 5) (ty := .array .int) dX5_init_24 rfl rfl (by decide) (by decide) kf_X5_19 rfl rfl rfl (by decide +kernel) rfl rfl (Nat.le_of_ble_eq_true rfl) ?_
  refine V_aload_n dX5_init_27 rfl rfl ?_
  refine V_aload_n dX5_init_28 rfl rfl ?_
  refine V_putF (ci := 5) (j := 0) (C0 := RX5) (T := TX5) (N := 5) (ty := .object "WordWheel$Words") dX5_init_29 rfl rfl (by decide) (by decide) kf_X5_22 rfl rfl rfl (by decide +kernel) rfl rfl (Nat.le_of_ble_eq_true rfl) ?_
  exact V_vret dX5_init_32 rfl (q1)
set_option maxRecDepth 100000 in
theorem nX5_init3_0 {G : gx} {d mc ms c z : Nat} {h : ah} {Q : Option Value → ah → Prop} (hd9 : 1 ≤ d ∧ d ≤ 9) (hr : c + 2 ≤ mc ∧ z + 400 ≤ ms) (g33 : h 33 = (5, .inl [.null, .null, .int (0 : Int32), .int (0 : Int32), .null])) (g0 : (h 0).1 = 32) (q1 : Q none (va_up (va_up (va_up (va_up (va_up (va_up (va_up (va_up h 34 (0, .inr (200, .inl (fun _ => 0)))) 0 (33, .inl [])) 33 (5, .inl [.null, .ref 34, .int (0 : Int32), .int (0 : Int32), .null])) 33 (5, .inl [.null, .ref 34, .int (-1 : Int32), .int (0 : Int32), .null])) 35 (0, .inr (200, .inl (fun _ => 0)))) 0 (34, .inl [])) 33 (5, .inl [.null, .ref 34, .int (-1 : Int32), .int (0 : Int32), .ref 35])) 33 (5, .inl [.ref 3, .ref 34, .int (-1 : Int32), .int (0 : Int32), .ref 35]))) : V G mX5_init (d, mc, ms, c, z) 0 [some (.ref 33), some (.ref 3)] [] h Q := by
  obtain ⟨hr1, hr2⟩ := hr
  refine V_aload_n dX5_init_0 rfl rfl ?_
  refine V_obj dX5_init_1 km_X5_3 koi koc hd9 (by decide) ?_
  refine V_aload_n dX5_init_4 rfl rfl ?_
  refine V_sipush dX5_init_5 sp_200 ?_
  refine V_newI (N := 32) (n := 200) dX5_init_8 kar_int nn_200 nc_200 (by decide) g0 ⟨by omega, by omega⟩ ?_
  refine V_putF (ci := 5) (j := 1) (C0 := RX5) (T := TX5) (N := 5) (ty := .array .int) dX5_init_10 rfl g33 (by decide) (by decide) kf_X5_9 rfl rfl rfl (by decide +kernel) rfl rfl (Nat.le_of_ble_eq_true rfl) ?_
  refine V_aload_n dX5_init_13 rfl rfl ?_
  refine V_iconst dX5_init_14 ic_m1 ?_
  refine V_put (ci := 5) (j := 2) (C0 := RX5) (T := TX5) (N := 5) (ty := .int) dX5_init_15 rfl rfl (by decide) (by decide) kf_X5_15 rfl (by decide +kernel) rfl rfl (Nat.le_of_ble_eq_true rfl) ?_
  refine V_aload_n dX5_init_18 rfl rfl ?_
  refine V_sipush dX5_init_19 sp_200 ?_
  refine V_newI (N := 33) (n := 200) dX5_init_22 kar_int nn_200 nc_200 (by decide) rfl ⟨by omega, by omega⟩ ?_
  refine V_putF (ci := 5) (j := 4) (C0 := RX5) (T := TX5) (N := 5) (ty := .array .int) dX5_init_24 rfl rfl (by decide) (by decide) kf_X5_19 rfl rfl rfl (by decide +kernel) rfl rfl (Nat.le_of_ble_eq_true rfl) ?_
  refine V_aload_n dX5_init_27 rfl rfl ?_
  refine V_aload_n dX5_init_28 rfl rfl ?_
  refine V_putF (ci := 5) (j := 0) (C0 := RX5) (T := TX5) (N := 5) (ty := .object "WordWheel$Words") dX5_init_29 rfl rfl (by decide) (by decide) kf_X5_22 rfl rfl rfl (by decide +kernel) rfl rfl (Nat.le_of_ble_eq_true rfl) ?_
  exact V_vret dX5_init_32 rfl (q1)
set_option maxRecDepth 100000 in
theorem nX0_init_0 {G : gx} {d mc ms c z : Nat} {h : ah} {Q : Option Value → ah → Prop} (hd9 : 1 ≤ d ∧ d ≤ 9) (hr : c + 1 ≤ mc ∧ z + 200 ≤ ms) (g36 : h 36 = (0, .inl [.null, .int (0 : Int32)])) (g0 : (h 0).1 = 35) (q1 : Q none (va_up (va_up (va_up h 37 (0, .inr (200, .inl (fun _ => 0)))) 0 (36, .inl [])) 36 (0, .inl [.ref 37, .int (0 : Int32)]))) : V G mX0_init (d, mc, ms, c, z) 0 [some (.ref 36)] [] h Q := by
  obtain ⟨hr1, hr2⟩ := hr
  refine V_aload_n dX0_init_0 rfl rfl ?_
  refine V_obj dX0_init_1 km_X0_3 koi koc hd9 (by decide) ?_
  refine V_aload_n dX0_init_4 rfl rfl ?_
  refine V_sipush dX0_init_5 sp_200 ?_
  refine V_newI (N := 35) (n := 200) dX0_init_8 kar_int nn_200 nc_200 (by decide) g0 ⟨by omega, by omega⟩ ?_
  refine V_putF (ci := 0) (j := 0) (C0 := RX0) (T := TX0) (N := 2) (ty := .array .int) dX0_init_10 rfl g36 (by decide) (by decide) kf_X0_9 rfl rfl rfl (by decide +kernel) rfl rfl (Nat.le_of_ble_eq_true rfl) ?_
  exact V_vret dX0_init_13 rfl (q1)
set_option maxRecDepth 100000 in
theorem nX1_init_0 {G : gx} {d mc ms c z : Nat} {h : ah} {Q : Option Value → ah → Prop} (hd9 : 1 ≤ d ∧ d ≤ 9) (hr : c + 3 ≤ mc ∧ z + 603 ≤ ms) (g38 : h 38 = (1, .inl [.null, .null, .null, .int (0 : Int32), .int (0 : Int32)])) (g0 : (h 0).1 = 37) (q1 : Q none (va_up (va_up (va_up (va_up (va_up (va_up (va_up (va_up (va_up (va_up h 39 (0, .inr (201, .inl (fun _ => 0)))) 0 (38, .inl [])) 38 (1, .inl [.ref 39, .null, .null, .int (0 : Int32), .int (0 : Int32)])) 40 (0, .inr (201, .inl (fun _ => 0)))) 0 (39, .inl [])) 38 (1, .inl [.ref 39, .ref 40, .null, .int (0 : Int32), .int (0 : Int32)])) 41 (0, .inr (201, .inl (fun _ => 0)))) 0 (40, .inl [])) 38 (1, .inl [.ref 39, .ref 40, .ref 41, .int (0 : Int32), .int (0 : Int32)])) 38 (1, .inl [.ref 39, .ref 40, .ref 41, .int (0 : Int32), .int (2 : Int32)]))) : V G mX1_init (d, mc, ms, c, z) 0 [some (.ref 38)] [] h Q := by
  obtain ⟨hr1, hr2⟩ := hr
  refine V_aload_n dX1_init_0 rfl rfl ?_
  refine V_obj dX1_init_1 km_X1_3 koi koc hd9 (by decide) ?_
  refine V_aload_n dX1_init_4 rfl rfl ?_
  refine V_sipush dX1_init_5 sp_201 ?_
  refine V_newI (N := 37) (n := 201) dX1_init_8 kar_int nn_201 nc_201 (by decide) g0 ⟨by omega, by omega⟩ ?_
  refine V_putF (ci := 1) (j := 0) (C0 := RX1) (T := TX1) (N := 5) (ty := .array .int) dX1_init_10 rfl g38 (by decide) (by decide) kf_X1_9 rfl rfl rfl (by decide +kernel) rfl rfl (Nat.le_of_ble_eq_true rfl) ?_
  refine V_aload_n dX1_init_13 rfl rfl ?_
  refine V_sipush dX1_init_14 sp_201 ?_
  refine V_newI (N := 38) (n := 201) dX1_init_17 kar_int nn_201 nc_201 (by decide) rfl ⟨by omega, by omega⟩ ?_
  refine V_putF (ci := 1) (j := 1) (C0 := RX1) (T := TX1) (N := 5) (ty := .array .int) dX1_init_19 rfl rfl (by decide) (by decide) kf_X1_15 rfl rfl rfl (by decide +kernel) rfl rfl (Nat.le_of_ble_eq_true rfl) ?_
  refine V_aload_n dX1_init_22 rfl rfl ?_
  refine V_sipush dX1_init_23 sp_201 ?_
  refine V_newI (N := 39) (n := 201) dX1_init_26 kar_int nn_201 nc_201 (by decide) rfl ⟨by omega, by omega⟩ ?_
  refine V_putF (ci := 1) (j := 2) (C0 := RX1) (T := TX1) (N := 5) (ty := .array .int) dX1_init_28 rfl rfl (by decide) (by decide) kf_X1_18 rfl rfl rfl (by decide +kernel) rfl rfl (Nat.le_of_ble_eq_true rfl) ?_
  refine V_aload_n dX1_init_31 rfl rfl ?_
  refine V_iconst dX1_init_32 ic_2 ?_
  refine V_put (ci := 1) (j := 4) (C0 := RX1) (T := TX1) (N := 5) (ty := .int) dX1_init_33 rfl rfl (by decide) (by decide) kf_X1_21 rfl (by decide +kernel) rfl rfl (Nat.le_of_ble_eq_true rfl) ?_
  exact V_vret dX1_init_36 rfl (q1)
set_option maxRecDepth 100000 in
theorem nX7_init_0 {G : gx} {d mc ms c z : Nat} {h : ah} {Q : Option Value → ah → Prop} (hd9 : 1 ≤ d ∧ d ≤ 9) (hr : c + 1 ≤ mc ∧ z + 5 ≤ ms) (g2 : h 2 = (7, .inl [.null, .null, .null, .null, .null, .null, .null, .int (0 : Int32), .int (0 : Int32)])) (g0 : (h 0).1 = 1) (q1 : V G mX7_init (d, mc, ms, c + 1, z + 5) 9 [some (.ref 2)] [.ref 3, .ref 3, .ref 2] (va_up (va_up h 3 (6, .inl [.null, .int (0 : Int32), .int (0 : Int32), .int (0 : Int32), .int (0 : Int32)])) 0 (2, .inl [])) Q) : V G mX7_init (d, mc, ms, c, z) 0 [some (.ref 2)] [] h Q := by
  obtain ⟨hr1, hr2⟩ := hr
  refine V_aload_n dX7_init_0 rfl rfl ?_
  refine V_obj dX7_init_1 km_X7_1 koi koc hd9 (by decide) ?_
  refine V_aload_n dX7_init_4 rfl rfl ?_
  refine V_new (ci := 6) (N := 1) (N0 := 5) (C0 := RX6) (T := TX6) (fs := [.null, .int (0 : Int32), .int (0 : Int32), .int (0 : Int32), .int (0 : Int32)]) dX7_init_5 rfl kc_X7_7 kn_X6 kj_X6 rfl g0 ⟨by omega, by omega⟩ ?_
  refine V_dup dX7_init_8 rfl ?_
  exact q1
set_option maxRecDepth 100000 in
theorem nX8_init_0 {G : gx} {d mc ms c z : Nat} {h : ah} {Q : Option Value → ah → Prop} (hd9 : 1 ≤ d ∧ d ≤ 9) (hr : c + 22 ≤ mc ∧ z + 183441 ≤ ms) (g42 : h 42 = (8, .inl [.int (0 : Int32), .int (0 : Int32), .int (0 : Int32), .null, .null, .null, .null, .int (0 : Int32), .null, .int (0 : Int32), .null, .null, .null, .null, .int (0 : Int32), .null, .int (0 : Int32), .null, .null, .null, .null, .null, .null, .int (0 : Int32), .int (0 : Int32), .int (0 : Int32), .null, .int (0 : Int32), .null, .null, .null, .null, .null])) (g0 : (h 0).1 = 41) (q1 : V G mX8_init (d, mc, ms, c + 1 + 1 + 1 + 1 + 1 + 1 + 1 + 1 + 1 + 1 + 1 + 1 + 1 + 1 + 1 + 1 + 1 + 1 + 1 + 1 + 1 + 1, z + 20000 + 5 + 5 + 14 + 20000 + 400 + 400 + 20000 + 20000 + 20000 + 20000 + 20000 + 4 + 4 + 800 + 200 + 200 + 201 + 202 + 202 + 202 + 40602) 196 [some (.ref 42), some (.int (0 : Int32))] [.int (4 : Int32), .int (0 : Int32)] (va_up (va_up (va_up (va_up (va_up (va_up (va_up (va_up (va_up (va_up (va_up (va_up (va_up (va_up (va_up (va_up (va_up (va_up (va_up (va_up (va_up (va_up (va_up (va_up (va_up (va_up (va_up (va_up (va_up (va_up (va_up (va_up (va_up (va_up (va_up (va_up (va_up (va_up (va_up (va_up (va_up (va_up (va_up (va_up (va_up (va_up (va_up (va_up (va_up (va_up (va_up (va_up (va_up (va_up (va_up (va_up (va_up (va_up (va_up (va_up (va_up (va_up (va_up (va_up (va_up (va_up h 43 (0, .inr (20000, .inl (fun _ => 0)))) 0 (42, .inl [])) 42 (8, .inl [.int (0 : Int32), .int (0 : Int32), .int (0 : Int32), .ref 43, .null, .null, .null, .int (0 : Int32), .null, .int (0 : Int32), .null, .null, .null, .null, .int (0 : Int32), .null, .int (0 : Int32), .null, .null, .null, .null, .null, .null, .int (0 : Int32), .int (0 : Int32), .int (0 : Int32), .null, .int (0 : Int32), .null, .null, .null, .null, .null])) 44 (0, .inr (5, .inl (fun _ => 0)))) 0 (43, .inl [])) 42 (8, .inl [.int (0 : Int32), .int (0 : Int32), .int (0 : Int32), .ref 43, .ref 44, .null, .null, .int (0 : Int32), .null, .int (0 : Int32), .null, .null, .null, .null, .int (0 : Int32), .null, .int (0 : Int32), .null, .null, .null, .null, .null, .null, .int (0 : Int32), .int (0 : Int32), .int (0 : Int32), .null, .int (0 : Int32), .null, .null, .null, .null, .null])) 45 (0, .inr (5, .inl (fun _ => 0)))) 0 (44, .inl [])) 42 (8, .inl [.int (0 : Int32), .int (0 : Int32), .int (0 : Int32), .ref 43, .ref 44, .ref 45, .null, .int (0 : Int32), .null, .int (0 : Int32), .null, .null, .null, .null, .int (0 : Int32), .null, .int (0 : Int32), .null, .null, .null, .null, .null, .null, .int (0 : Int32), .int (0 : Int32), .int (0 : Int32), .null, .int (0 : Int32), .null, .null, .null, .null, .null])) 46 (0, .inr (14, .inl (fun _ => 0)))) 0 (45, .inl [])) 42 (8, .inl [.int (0 : Int32), .int (0 : Int32), .int (0 : Int32), .ref 43, .ref 44, .ref 45, .ref 46, .int (0 : Int32), .null, .int (0 : Int32), .null, .null, .null, .null, .int (0 : Int32), .null, .int (0 : Int32), .null, .null, .null, .null, .null, .null, .int (0 : Int32), .int (0 : Int32), .int (0 : Int32), .null, .int (0 : Int32), .null, .null, .null, .null, .null])) 47 (0, .inr (20000, .inl (fun _ => 0)))) 0 (46, .inl [])) 42 (8, .inl [.int (0 : Int32), .int (0 : Int32), .int (0 : Int32), .ref 43, .ref 44, .ref 45, .ref 46, .int (0 : Int32), .ref 47, .int (0 : Int32), .null, .null, .null, .null, .int (0 : Int32), .null, .int (0 : Int32), .null, .null, .null, .null, .null, .null, .int (0 : Int32), .int (0 : Int32), .int (0 : Int32), .null, .int (0 : Int32), .null, .null, .null, .null, .null])) 48 (0, .inr (400, .inl (fun _ => 0)))) 0 (47, .inl [])) 42 (8, .inl [.int (0 : Int32), .int (0 : Int32), .int (0 : Int32), .ref 43, .ref 44, .ref 45, .ref 46, .int (0 : Int32), .ref 47, .int (0 : Int32), .ref 48, .null, .null, .null, .int (0 : Int32), .null, .int (0 : Int32), .null, .null, .null, .null, .null, .null, .int (0 : Int32), .int (0 : Int32), .int (0 : Int32), .null, .int (0 : Int32), .null, .null, .null, .null, .null])) 49 (0, .inr (400, .inl (fun _ => 0)))) 0 (48, .inl [])) 42 (8, .inl [.int (0 : Int32), .int (0 : Int32), .int (0 : Int32), .ref 43, .ref 44, .ref 45, .ref 46, .int (0 : Int32), .ref 47, .int (0 : Int32), .ref 48, .ref 49, .null, .null, .int (0 : Int32), .null, .int (0 : Int32), .null, .null, .null, .null, .null, .null, .int (0 : Int32), .int (0 : Int32), .int (0 : Int32), .null, .int (0 : Int32), .null, .null, .null, .null, .null])) 50 (2, .inr (20000, .inl (fun _ => 0)))) 0 (49, .inl [])) 42 (8, .inl [.int (0 : Int32), .int (0 : Int32), .int (0 : Int32), .ref 43, .ref 44, .ref 45, .ref 46, .int (0 : Int32), .ref 47, .int (0 : Int32), .ref 48, .ref 49, .ref 50, .null, .int (0 : Int32), .null, .int (0 : Int32), .null, .null, .null, .null, .null, .null, .int (0 : Int32), .int (0 : Int32), .int (0 : Int32), .null, .int (0 : Int32), .null, .null, .null, .null, .null])) 51 (0, .inr (20000, .inl (fun _ => 0)))) 0 (50, .inl [])) 42 (8, .inl [.int (0 : Int32), .int (0 : Int32), .int (0 : Int32), .ref 43, .ref 44, .ref 45, .ref 46, .int (0 : Int32), .ref 47, .int (0 : Int32), .ref 48, .ref 49, .ref 50, .ref 51, .int (0 : Int32), .null, .int (0 : Int32), .null, .null, .null, .null, .null, .null, .int (0 : Int32), .int (0 : Int32), .int (0 : Int32), .null, .int (0 : Int32), .null, .null, .null, .null, .null])) 52 (0, .inr (20000, .inl (fun _ => 0)))) 0 (51, .inl [])) 42 (8, .inl [.int (0 : Int32), .int (0 : Int32), .int (0 : Int32), .ref 43, .ref 44, .ref 45, .ref 46, .int (0 : Int32), .ref 47, .int (0 : Int32), .ref 48, .ref 49, .ref 50, .ref 51, .int (0 : Int32), .ref 52, .int (0 : Int32), .null, .null, .null, .null, .null, .null, .int (0 : Int32), .int (0 : Int32), .int (0 : Int32), .null, .int (0 : Int32), .null, .null, .null, .null, .null])) 53 (0, .inr (20000, .inl (fun _ => 0)))) 0 (52, .inl [])) 42 (8, .inl [.int (0 : Int32), .int (0 : Int32), .int (0 : Int32), .ref 43, .ref 44, .ref 45, .ref 46, .int (0 : Int32), .ref 47, .int (0 : Int32), .ref 48, .ref 49, .ref 50, .ref 51, .int (0 : Int32), .ref 52, .int (0 : Int32), .ref 53, .null, .null, .null, .null, .null, .int (0 : Int32), .int (0 : Int32), .int (0 : Int32), .null, .int (0 : Int32), .null, .null, .null, .null, .null])) 54 (0, .inr (20000, .inl (fun _ => 0)))) 0 (53, .inl [])) 42 (8, .inl [.int (0 : Int32), .int (0 : Int32), .int (0 : Int32), .ref 43, .ref 44, .ref 45, .ref 46, .int (0 : Int32), .ref 47, .int (0 : Int32), .ref 48, .ref 49, .ref 50, .ref 51, .int (0 : Int32), .ref 52, .int (0 : Int32), .ref 53, .ref 54, .null, .null, .null, .null, .int (0 : Int32), .int (0 : Int32), .int (0 : Int32), .null, .int (0 : Int32), .null, .null, .null, .null, .null])) 55 (0, .inr (4, .inl (fun _ => 0)))) 0 (54, .inl [])) 42 (8, .inl [.int (0 : Int32), .int (0 : Int32), .int (0 : Int32), .ref 43, .ref 44, .ref 45, .ref 46, .int (0 : Int32), .ref 47, .int (0 : Int32), .ref 48, .ref 49, .ref 50, .ref 51, .int (0 : Int32), .ref 52, .int (0 : Int32), .ref 53, .ref 54, .ref 55, .null, .null, .null, .int (0 : Int32), .int (0 : Int32), .int (0 : Int32), .null, .int (0 : Int32), .null, .null, .null, .null, .null])) 56 (0, .inr (4, .inl (fun _ => 0)))) 0 (55, .inl [])) 42 (8, .inl [.int (0 : Int32), .int (0 : Int32), .int (0 : Int32), .ref 43, .ref 44, .ref 45, .ref 46, .int (0 : Int32), .ref 47, .int (0 : Int32), .ref 48, .ref 49, .ref 50, .ref 51, .int (0 : Int32), .ref 52, .int (0 : Int32), .ref 53, .ref 54, .ref 55, .ref 56, .null, .null, .int (0 : Int32), .int (0 : Int32), .int (0 : Int32), .null, .int (0 : Int32), .null, .null, .null, .null, .null])) 57 (0, .inr (800, .inl (fun _ => 0)))) 0 (56, .inl [])) 42 (8, .inl [.int (0 : Int32), .int (0 : Int32), .int (0 : Int32), .ref 43, .ref 44, .ref 45, .ref 46, .int (0 : Int32), .ref 47, .int (0 : Int32), .ref 48, .ref 49, .ref 50, .ref 51, .int (0 : Int32), .ref 52, .int (0 : Int32), .ref 53, .ref 54, .ref 55, .ref 56, .ref 57, .null, .int (0 : Int32), .int (0 : Int32), .int (0 : Int32), .null, .int (0 : Int32), .null, .null, .null, .null, .null])) 58 (0, .inr (200, .inl (fun _ => 0)))) 0 (57, .inl [])) 42 (8, .inl [.int (0 : Int32), .int (0 : Int32), .int (0 : Int32), .ref 43, .ref 44, .ref 45, .ref 46, .int (0 : Int32), .ref 47, .int (0 : Int32), .ref 48, .ref 49, .ref 50, .ref 51, .int (0 : Int32), .ref 52, .int (0 : Int32), .ref 53, .ref 54, .ref 55, .ref 56, .ref 57, .ref 58, .int (0 : Int32), .int (0 : Int32), .int (0 : Int32), .null, .int (0 : Int32), .null, .null, .null, .null, .null])) 59 (0, .inr (200, .inl (fun _ => 0)))) 0 (58, .inl [])) 42 (8, .inl [.int (0 : Int32), .int (0 : Int32), .int (0 : Int32), .ref 43, .ref 44, .ref 45, .ref 46, .int (0 : Int32), .ref 47, .int (0 : Int32), .ref 48, .ref 49, .ref 50, .ref 51, .int (0 : Int32), .ref 52, .int (0 : Int32), .ref 53, .ref 54, .ref 55, .ref 56, .ref 57, .ref 58, .int (0 : Int32), .int (0 : Int32), .int (0 : Int32), .ref 59, .int (0 : Int32), .null, .null, .null, .null, .null])) 60 (0, .inr (201, .inl (fun _ => 0)))) 0 (59, .inl [])) 42 (8, .inl [.int (0 : Int32), .int (0 : Int32), .int (0 : Int32), .ref 43, .ref 44, .ref 45, .ref 46, .int (0 : Int32), .ref 47, .int (0 : Int32), .ref 48, .ref 49, .ref 50, .ref 51, .int (0 : Int32), .ref 52, .int (0 : Int32), .ref 53, .ref 54, .ref 55, .ref 56, .ref 57, .ref 58, .int (0 : Int32), .int (0 : Int32), .int (0 : Int32), .ref 59, .int (0 : Int32), .ref 60, .null, .null, .null, .null])) 61 (0, .inr (202, .inl (fun _ => 0)))) 0 (60, .inl [])) 42 (8, .inl [.int (0 : Int32), .int (0 : Int32), .int (0 : Int32), .ref 43, .ref 44, .ref 45, .ref 46, .int (0 : Int32), .ref 47, .int (0 : Int32), .ref 48, .ref 49, .ref 50, .ref 51, .int (0 : Int32), .ref 52, .int (0 : Int32), .ref 53, .ref 54, .ref 55, .ref 56, .ref 57, .ref 58, .int (0 : Int32), .int (0 : Int32), .int (0 : Int32), .ref 59, .int (0 : Int32), .ref 60, .ref 61, .null, .null, .null])) 62 (0, .inr (202, .inl (fun _ => 0)))) 0 (61, .inl [])) 42 (8, .inl [.int (0 : Int32), .int (0 : Int32), .int (0 : Int32), .ref 43, .ref 44, .ref 45, .ref 46, .int (0 : Int32), .ref 47, .int (0 : Int32), .ref 48, .ref 49, .ref 50, .ref 51, .int (0 : Int32), .ref 52, .int (0 : Int32), .ref 53, .ref 54, .ref 55, .ref 56, .ref 57, .ref 58, .int (0 : Int32), .int (0 : Int32), .int (0 : Int32), .ref 59, .int (0 : Int32), .ref 60, .ref 61, .ref 62, .null, .null])) 63 (0, .inr (202, .inl (fun _ => 0)))) 0 (62, .inl [])) 42 (8, .inl [.int (0 : Int32), .int (0 : Int32), .int (0 : Int32), .ref 43, .ref 44, .ref 45, .ref 46, .int (0 : Int32), .ref 47, .int (0 : Int32), .ref 48, .ref 49, .ref 50, .ref 51, .int (0 : Int32), .ref 52, .int (0 : Int32), .ref 53, .ref 54, .ref 55, .ref 56, .ref 57, .ref 58, .int (0 : Int32), .int (0 : Int32), .int (0 : Int32), .ref 59, .int (0 : Int32), .ref 60, .ref 61, .ref 62, .ref 63, .null])) 64 (0, .inr (40602, .inl (fun _ => 0)))) 0 (63, .inl [])) 42 (8, .inl [.int (0 : Int32), .int (0 : Int32), .int (0 : Int32), .ref 43, .ref 44, .ref 45, .ref 46, .int (0 : Int32), .ref 47, .int (0 : Int32), .ref 48, .ref 49, .ref 50, .ref 51, .int (0 : Int32), .ref 52, .int (0 : Int32), .ref 53, .ref 54, .ref 55, .ref 56, .ref 57, .ref 58, .int (0 : Int32), .int (0 : Int32), .int (0 : Int32), .ref 59, .int (0 : Int32), .ref 60, .ref 61, .ref 62, .ref 63, .ref 64])) Q) : V G mX8_init (d, mc, ms, c, z) 0 [some (.ref 42)] [] h Q := by
  obtain ⟨hr1, hr2⟩ := hr
  refine V_aload_n dX8_init_0 rfl rfl ?_
  refine V_obj dX8_init_1 km_X8_1 koi koc hd9 (by decide) ?_
  refine V_aload_n dX8_init_4 rfl rfl ?_
  refine V_sipush dX8_init_5 sp_20000 ?_
  refine V_newI (N := 41) (n := 20000) dX8_init_8 kar_int nn_20000 nc_20000 (by decide) g0 ⟨by omega, by omega⟩ ?_
  refine V_putF (ci := 8) (j := 3) (C0 := RX8) (T := TX8) (N := 33) (ty := .array .int) dX8_init_10 rfl g42 (by decide) (by decide) kf_X8_7 rfl rfl rfl (by decide +kernel) rfl rfl (Nat.le_of_ble_eq_true rfl) ?_
  refine V_aload_n dX8_init_13 rfl rfl ?_
  refine V_iconst dX8_init_14 ic_5 ?_
  refine V_newI (N := 42) (n := 5) dX8_init_15 kar_int nn_5 nc_5 (by decide) rfl ⟨by omega, by omega⟩ ?_
  refine V_putF (ci := 8) (j := 4) (C0 := RX8) (T := TX8) (N := 33) (ty := .array .int) dX8_init_17 rfl rfl (by decide) (by decide) kf_X8_13 rfl rfl rfl (by decide +kernel) rfl rfl (Nat.le_of_ble_eq_true rfl) ?_
  refine V_aload_n dX8_init_20 rfl rfl ?_
  refine V_iconst dX8_init_21 ic_5 ?_
  refine V_newI (N := 43) (n := 5) dX8_init_22 kar_int nn_5 nc_5 (by decide) rfl ⟨by omega, by omega⟩ ?_
  refine V_putF (ci := 8) (j := 5) (C0 := RX8) (T := TX8) (N := 33) (ty := .array .int) dX8_init_24 rfl rfl (by decide) (by decide) kf_X8_16 rfl rfl rfl (by decide +kernel) rfl rfl (Nat.le_of_ble_eq_true rfl) ?_
  refine V_aload_n dX8_init_27 rfl rfl ?_
  refine V_bipush dX8_init_28 bp_14 ?_
  refine V_newI (N := 44) (n := 14) dX8_init_30 kar_int nn_14 nc_14 (by decide) rfl ⟨by omega, by omega⟩ ?_
  refine V_putF (ci := 8) (j := 6) (C0 := RX8) (T := TX8) (N := 33) (ty := .array .int) dX8_init_32 rfl rfl (by decide) (by decide) kf_X8_19 rfl rfl rfl (by decide +kernel) rfl rfl (Nat.le_of_ble_eq_true rfl) ?_
  refine V_aload_n dX8_init_35 rfl rfl ?_
  refine V_sipush dX8_init_36 sp_20000 ?_
  refine V_newI (N := 45) (n := 20000) dX8_init_39 kar_int nn_20000 nc_20000 (by decide) rfl ⟨by omega, by omega⟩ ?_
  refine V_putF (ci := 8) (j := 8) (C0 := RX8) (T := TX8) (N := 33) (ty := .array .int) dX8_init_41 rfl rfl (by decide) (by decide) kf_X8_22 rfl rfl rfl (by decide +kernel) rfl rfl (Nat.le_of_ble_eq_true rfl) ?_
  refine V_aload_n dX8_init_44 rfl rfl ?_
  refine V_sipush dX8_init_45 sp_400 ?_
  refine V_newI (N := 46) (n := 400) dX8_init_48 kar_int nn_400 nc_400 (by decide) rfl ⟨by omega, by omega⟩ ?_
  refine V_putF (ci := 8) (j := 10) (C0 := RX8) (T := TX8) (N := 33) (ty := .array .int) dX8_init_50 rfl rfl (by decide) (by decide) kf_X8_25 rfl rfl rfl (by decide +kernel) rfl rfl (Nat.le_of_ble_eq_true rfl) ?_
  refine V_aload_n dX8_init_53 rfl rfl ?_
  refine V_sipush dX8_init_54 sp_400 ?_
  refine V_newI (N := 47) (n := 400) dX8_init_57 kar_int nn_400 nc_400 (by decide) rfl ⟨by omega, by omega⟩ ?_
  refine V_putF (ci := 8) (j := 11) (C0 := RX8) (T := TX8) (N := 33) (ty := .array .int) dX8_init_59 rfl rfl (by decide) (by decide) kf_X8_28 rfl rfl rfl (by decide +kernel) rfl rfl (Nat.le_of_ble_eq_true rfl) ?_
  refine V_aload_n dX8_init_62 rfl rfl ?_
  refine V_sipush dX8_init_63 sp_20000 ?_
  refine V_newZ (N := 48) (n := 20000) dX8_init_66 kar_boolean nn_20000 nc_20000 (by decide) rfl ⟨by omega, by omega⟩ ?_
  refine V_putF (ci := 8) (j := 12) (C0 := RX8) (T := TX8) (N := 33) (ty := .array .boolean) dX8_init_68 rfl rfl (by decide) (by decide) kf_X8_31 rfl rfl rfl (by decide +kernel) rfl rfl (Nat.le_of_ble_eq_true rfl) ?_
  refine V_aload_n dX8_init_71 rfl rfl ?_
  refine V_sipush dX8_init_72 sp_20000 ?_
  refine V_newI (N := 49) (n := 20000) dX8_init_75 kar_int nn_20000 nc_20000 (by decide) rfl ⟨by omega, by omega⟩ ?_
  refine V_putF (ci := 8) (j := 13) (C0 := RX8) (T := TX8) (N := 33) (ty := .array .int) dX8_init_77 rfl rfl (by decide) (by decide) kf_X8_35 rfl rfl rfl (by decide +kernel) rfl rfl (Nat.le_of_ble_eq_true rfl) ?_
  refine V_aload_n dX8_init_80 rfl rfl ?_
  refine V_sipush dX8_init_81 sp_20000 ?_
  refine V_newI (N := 50) (n := 20000) dX8_init_84 kar_int nn_20000 nc_20000 (by decide) rfl ⟨by omega, by omega⟩ ?_
  refine V_putF (ci := 8) (j := 15) (C0 := RX8) (T := TX8) (N := 33) (ty := .array .int) dX8_init_86 rfl rfl (by decide) (by decide) kf_X8_38 rfl rfl rfl (by decide +kernel) rfl rfl (Nat.le_of_ble_eq_true rfl) ?_
  refine V_aload_n dX8_init_89 rfl rfl ?_
  refine V_sipush dX8_init_90 sp_20000 ?_
  refine V_newI (N := 51) (n := 20000) dX8_init_93 kar_int nn_20000 nc_20000 (by decide) rfl ⟨by omega, by omega⟩ ?_
  refine V_putF (ci := 8) (j := 17) (C0 := RX8) (T := TX8) (N := 33) (ty := .array .int) dX8_init_95 rfl rfl (by decide) (by decide) kf_X8_41 rfl rfl rfl (by decide +kernel) rfl rfl (Nat.le_of_ble_eq_true rfl) ?_
  refine V_aload_n dX8_init_98 rfl rfl ?_
  refine V_sipush dX8_init_99 sp_20000 ?_
  refine V_newI (N := 52) (n := 20000) dX8_init_102 kar_int nn_20000 nc_20000 (by decide) rfl ⟨by omega, by omega⟩ ?_
  refine V_putF (ci := 8) (j := 18) (C0 := RX8) (T := TX8) (N := 33) (ty := .array .int) dX8_init_104 rfl rfl (by decide) (by decide) kf_X8_44 rfl rfl rfl (by decide +kernel) rfl rfl (Nat.le_of_ble_eq_true rfl) ?_
  refine V_aload_n dX8_init_107 rfl rfl ?_
  refine V_iconst dX8_init_108 ic_4 ?_
  refine V_newI (N := 53) (n := 4) dX8_init_109 kar_int nn_4 nc_4 (by decide) rfl ⟨by omega, by omega⟩ ?_
  refine V_putF (ci := 8) (j := 19) (C0 := RX8) (T := TX8) (N := 33) (ty := .array .int) dX8_init_111 rfl rfl (by decide) (by decide) kf_X8_47 rfl rfl rfl (by decide +kernel) rfl rfl (Nat.le_of_ble_eq_true rfl) ?_
  refine V_aload_n dX8_init_114 rfl rfl ?_
  refine V_iconst dX8_init_115 ic_4 ?_
  refine V_newI (N := 54) (n := 4) dX8_init_116 kar_int nn_4 nc_4 (by decide) rfl ⟨by omega, by omega⟩ ?_
  refine V_putF (ci := 8) (j := 20) (C0 := RX8) (T := TX8) (N := 33) (ty := .array .int) dX8_init_118 rfl rfl (by decide) (by decide) kf_X8_50 rfl rfl rfl (by decide +kernel) rfl rfl (Nat.le_of_ble_eq_true rfl) ?_
  refine V_aload_n dX8_init_121 rfl rfl ?_
  refine V_sipush dX8_init_122 sp_800 ?_
  refine V_newI (N := 55) (n := 800) dX8_init_125 kar_int nn_800 nc_800 (by decide) rfl ⟨by omega, by omega⟩ ?_
  refine V_putF (ci := 8) (j := 21) (C0 := RX8) (T := TX8) (N := 33) (ty := .array .int) dX8_init_127 rfl rfl (by decide) (by decide) kf_X8_53 rfl rfl rfl (by decide +kernel) rfl rfl (Nat.le_of_ble_eq_true rfl) ?_
  refine V_aload_n dX8_init_130 rfl rfl ?_
  refine V_sipush dX8_init_131 sp_200 ?_
  refine V_newI (N := 56) (n := 200) dX8_init_134 kar_int nn_200 nc_200 (by decide) rfl ⟨by omega, by omega⟩ ?_
  refine V_putF (ci := 8) (j := 22) (C0 := RX8) (T := TX8) (N := 33) (ty := .array .int) dX8_init_136 rfl rfl (by decide) (by decide) kf_X8_56 rfl rfl rfl (by decide +kernel) rfl rfl (Nat.le_of_ble_eq_true rfl) ?_
  refine V_aload_n dX8_init_139 rfl rfl ?_
  refine V_sipush dX8_init_140 sp_200 ?_
  refine V_newI (N := 57) (n := 200) dX8_init_143 kar_int nn_200 nc_200 (by decide) rfl ⟨by omega, by omega⟩ ?_
  refine V_putF (ci := 8) (j := 26) (C0 := RX8) (T := TX8) (N := 33) (ty := .array .int) dX8_init_145 rfl rfl (by decide) (by decide) kf_X8_59 rfl rfl rfl (by decide +kernel) rfl rfl (Nat.le_of_ble_eq_true rfl) ?_
  refine V_aload_n dX8_init_148 rfl rfl ?_
  refine V_sipush dX8_init_149 sp_201 ?_
  refine V_newI (N := 58) (n := 201) dX8_init_152 kar_int nn_201 nc_201 (by decide) rfl ⟨by omega, by omega⟩ ?_
  refine V_putF (ci := 8) (j := 28) (C0 := RX8) (T := TX8) (N := 33) (ty := .array .int) dX8_init_154 rfl rfl (by decide) (by decide) kf_X8_62 rfl rfl rfl (by decide +kernel) rfl rfl (Nat.le_of_ble_eq_true rfl) ?_
  refine V_aload_n dX8_init_157 rfl rfl ?_
  refine V_sipush dX8_init_158 sp_202 ?_
  refine V_newI (N := 59) (n := 202) dX8_init_161 kar_int nn_202 nc_202 (by decide) rfl ⟨by omega, by omega⟩ ?_
  refine V_putF (ci := 8) (j := 29) (C0 := RX8) (T := TX8) (N := 33) (ty := .array .int) dX8_init_163 rfl rfl (by decide) (by decide) kf_X8_65 rfl rfl rfl (by decide +kernel) rfl rfl (Nat.le_of_ble_eq_true rfl) ?_
  refine V_aload_n dX8_init_166 rfl rfl ?_
  refine V_sipush dX8_init_167 sp_202 ?_
  refine V_newI (N := 60) (n := 202) dX8_init_170 kar_int nn_202 nc_202 (by decide) rfl ⟨by omega, by omega⟩ ?_
  refine V_putF (ci := 8) (j := 30) (C0 := RX8) (T := TX8) (N := 33) (ty := .array .int) dX8_init_172 rfl rfl (by decide) (by decide) kf_X8_68 rfl rfl rfl (by decide +kernel) rfl rfl (Nat.le_of_ble_eq_true rfl) ?_
  refine V_aload_n dX8_init_175 rfl rfl ?_
  refine V_sipush dX8_init_176 sp_202 ?_
  refine V_newI (N := 61) (n := 202) dX8_init_179 kar_int nn_202 nc_202 (by decide) rfl ⟨by omega, by omega⟩ ?_
  refine V_putF (ci := 8) (j := 31) (C0 := RX8) (T := TX8) (N := 33) (ty := .array .int) dX8_init_181 rfl rfl (by decide) (by decide) kf_X8_71 rfl rfl rfl (by decide +kernel) rfl rfl (Nat.le_of_ble_eq_true rfl) ?_
  refine V_aload_n dX8_init_184 rfl rfl ?_
  refine V_ldc dX8_init_185 kk_X8_74 ?_
  refine V_newI (N := 62) (n := 40602) dX8_init_187 kar_int nn_40602 nc_40602 (by decide) rfl ⟨by omega, by omega⟩ ?_
  refine V_putF (ci := 8) (j := 32) (C0 := RX8) (T := TX8) (N := 33) (ty := .array .int) dX8_init_189 rfl rfl (by decide) (by decide) kf_X8_75 rfl rfl rfl (by decide +kernel) rfl rfl (Nat.le_of_ble_eq_true rfl) ?_
  refine V_iconst dX8_init_192 ic_0 ?_
  refine V_istore_n dX8_init_193 rfl (Nat.le_of_ble_eq_true rfl) ?_
  refine V_iload_n dX8_init_194 rfl rfl ?_
  refine V_iconst dX8_init_195 ic_4 ?_
  exact q1
