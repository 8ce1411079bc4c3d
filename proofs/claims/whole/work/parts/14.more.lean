theorem V_inc {G : gx} {y : my} {b : bg} {pc : Nat} {L : List (Option Value)} {S : List Value} {h : ah} {Q : Option Value → ah → Prop} {i : Nat} {n : Int} {x v : Int32} (hd : decode y.2.1 pc = .ok (.iinc i n, 3)) (hv : Int32.ofInt n = v) (hg : L[i]? = some (some (.int x))) (hn : i < y.2.2.1) (k : V G y b (pc + 3) (st1 i (.int (x + v)) L) S h Q) : V G y b pc L S h Q := V_iinc hd hg hn (by rw [hv]; exact k)
theorem ic_m1 : Int32.ofInt (-1) = (-1 : Int32) := by decide +kernel
theorem ic_0 : Int32.ofInt 0 = (0 : Int32) := by decide +kernel
theorem ic_1 : Int32.ofInt 1 = (1 : Int32) := by decide +kernel
theorem ic_2 : Int32.ofInt 2 = (2 : Int32) := by decide +kernel
theorem ic_3 : Int32.ofInt 3 = (3 : Int32) := by decide +kernel
theorem ic_4 : Int32.ofInt 4 = (4 : Int32) := by decide +kernel
theorem ic_5 : Int32.ofInt 5 = (5 : Int32) := by decide +kernel
theorem bp_m10 : (Int8.ofInt (-10)).toInt32 = (-10 : Int32) := by decide +kernel
theorem bp_m4 : (Int8.ofInt (-4)).toInt32 = (-4 : Int32) := by decide +kernel
theorem bp_m3 : (Int8.ofInt (-3)).toInt32 = (-3 : Int32) := by decide +kernel
theorem bp_m2 : (Int8.ofInt (-2)).toInt32 = (-2 : Int32) := by decide +kernel
theorem bp_6 : (Int8.ofInt (6)).toInt32 = (6 : Int32) := by decide +kernel
theorem bp_8 : (Int8.ofInt (8)).toInt32 = (8 : Int32) := by decide +kernel
theorem bp_14 : (Int8.ofInt (14)).toInt32 = (14 : Int32) := by decide +kernel
theorem bp_15 : (Int8.ofInt (15)).toInt32 = (15 : Int32) := by decide +kernel
theorem bp_16 : (Int8.ofInt (16)).toInt32 = (16 : Int32) := by decide +kernel
theorem bp_32 : (Int8.ofInt (32)).toInt32 = (32 : Int32) := by decide +kernel
theorem bp_40 : (Int8.ofInt (40)).toInt32 = (40 : Int32) := by decide +kernel
theorem bp_63 : (Int8.ofInt (63)).toInt32 = (63 : Int32) := by decide +kernel
theorem bp_127 : (Int8.ofInt (127)).toInt32 = (127 : Int32) := by decide +kernel
theorem sp_200 : (Int16.ofInt (200)).toInt32 = (200 : Int32) := by decide +kernel
theorem sp_201 : (Int16.ofInt (201)).toInt32 = (201 : Int32) := by decide +kernel
theorem sp_202 : (Int16.ofInt (202)).toInt32 = (202 : Int32) := by decide +kernel
theorem sp_400 : (Int16.ofInt (400)).toInt32 = (400 : Int32) := by decide +kernel
theorem sp_401 : (Int16.ofInt (401)).toInt32 = (401 : Int32) := by decide +kernel
theorem sp_800 : (Int16.ofInt (800)).toInt32 = (800 : Int32) := by decide +kernel
theorem sp_1000 : (Int16.ofInt (1000)).toInt32 = (1000 : Int32) := by decide +kernel
theorem sp_20000 : (Int16.ofInt (20000)).toInt32 = (20000 : Int32) := by decide +kernel
theorem ic_6 : Int32.ofInt (6) = (6 : Int32) := by decide +kernel
theorem lc_0 : Int64.ofNat ((0 : Fin 2) : Nat) = (0 : Int64) := by decide +kernel
theorem lc_1 : Int64.ofNat ((1 : Fin 2) : Nat) = (1 : Int64) := by decide +kernel
