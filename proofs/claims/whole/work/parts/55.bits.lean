/-! bitCount, out of its steps -/
def bcA (y : Int64) : Int64 := y - ((y.toUInt64 >>> ((1 : Int32).toInt64.toUInt64 &&& Int64.toUInt64 63)).toInt64 &&& (6148914691236517205 : Int64))
def bcB (y : Int64) : Int64 := (y &&& (3689348814741910323 : Int64)) + ((y.toUInt64 >>> ((2 : Int32).toInt64.toUInt64 &&& Int64.toUInt64 63)).toInt64 &&& (3689348814741910323 : Int64))
def bcC (y : Int64) : Int64 := (y + (y.toUInt64 >>> ((4 : Int32).toInt64.toUInt64 &&& Int64.toUInt64 63)).toInt64) &&& (1085102592571150095 : Int64)
def bcD (y : Int64) : Int64 := y + (y.toUInt64 >>> ((8 : Int32).toInt64.toUInt64 &&& Int64.toUInt64 63)).toInt64
def bcE (y : Int64) : Int64 := y + (y.toUInt64 >>> ((16 : Int32).toInt64.toUInt64 &&& Int64.toUInt64 63)).toInt64
def bcF (y : Int64) : Int64 := y + (y.toUInt64 >>> ((32 : Int32).toInt64.toUInt64 &&& Int64.toUInt64 63)).toInt64
theorem bc_eq (y : Int64) : ((bcF (bcE (bcD (bcC (bcB (bcA y))))))).toInt32 &&& (127 : Int32) = nI (bcn (nb y) 64) := by
  have hy := nb_lt y
  have a1 : nb (bcA y) = sY 8 (nb y) := by
    unfold bcA
    have e : nb ((y.toUInt64 >>> ((1 : Int32).toInt64.toUInt64 &&& Int64.toUInt64 63)).toInt64 &&& (6148914691236517205 : Int64)) = (nb y / 2) &&& mk8 85 8 := by
      rw [nb_and, nb_shr _ _ 1 (by decide +kernel), show nb (6148914691236517205 : Int64) = mk8 85 8 by decide +kernel]
    have l : ((nb y / 2) &&& mk8 85 8) ≤ nb y := Nat.le_trans Nat.and_le_left (Nat.div_le_self _ _)
    rw [nb_sub (by rw [e]; exact l), e]
    exact st_1 8 (nb y) (by rw [show 256 ^ 8 = 2 ^ 64 by decide]; exact hy)
  have a2 : nb (bcB (bcA y)) = sZ 8 (nb y) := by
    unfold bcB
    generalize bcA y = z at a1
    have e : nb ((z.toUInt64 >>> ((2 : Int32).toInt64.toUInt64 &&& Int64.toUInt64 63)).toInt64 &&& (3689348814741910323 : Int64)) = (nb z / 4) &&& mk8 51 8 := by
      rw [nb_and, nb_shr _ _ 2 (by decide +kernel), show nb (3689348814741910323 : Int64) = mk8 51 8 by decide +kernel]
    have e2 : nb (z &&& (3689348814741910323 : Int64)) = nb z &&& mk8 51 8 := by rw [nb_and, show nb (3689348814741910323 : Int64) = mk8 51 8 by decide +kernel]
    have l1 : (nb z &&& mk8 51 8) ≤ mk8 51 8 := Nat.and_le_right
    have l2 : ((nb z / 4) &&& mk8 51 8) ≤ mk8 51 8 := Nat.and_le_right
    have l3 : mk8 51 8 + mk8 51 8 < 2 ^ 64 := by decide +kernel
    rw [nb_add (by rw [e, e2]; omega), e, e2, a1]
    exact st_2 8 (nb y)
  have bz : sZ 8 (nb y) ≤ mk8 51 8 + mk8 51 8 := by
    rw [← st_2 8 (nb y)]
    exact Nat.add_le_add Nat.and_le_right Nat.and_le_right
  have a3 : nb (bcC (bcB (bcA y))) = sT 8 (nb y) := by
    unfold bcC
    generalize bcB (bcA y) = z at a2
    have e : nb ((z.toUInt64 >>> ((4 : Int32).toInt64.toUInt64 &&& Int64.toUInt64 63)).toInt64) = nb z / 16 := by
      rw [nb_shr _ _ 4 (by decide +kernel)]
    have l3 : (mk8 51 8 + mk8 51 8) + (mk8 51 8 + mk8 51 8) / 16 < 2 ^ 64 := by decide +kernel
    have l4 : nb z / 16 ≤ (mk8 51 8 + mk8 51 8) / 16 := Nat.div_le_div_right (by rw [a2]; exact bz)
    rw [nb_and, nb_add (by rw [e, a2] at *; omega), e, show nb (1085102592571150095 : Int64) = mk8 15 8 by decide +kernel, a2]
    exact st_3 8 (nb y)
  generalize bcC (bcB (bcA y)) = t at a3
  have pb : ∀ x : Nat, pc8 (x % 256) ≤ 8 := fun x => (tb_z (x % 256) (Nat.mod_lt _ (by decide))).2.2.2
  have hf := fold_8 (pb (nb y)) (pb (nb y / 256)) (pb (nb y / 256 / 256)) (pb (nb y / 256 / 256 / 256)) (pb (nb y / 256 / 256 / 256 / 256)) (pb (nb y / 256 / 256 / 256 / 256 / 256)) (pb (nb y / 256 / 256 / 256 / 256 / 256 / 256)) (pb (nb y / 256 / 256 / 256 / 256 / 256 / 256 / 256)) (t := nb t) a3 rfl rfl
  have hb := bcn_64 (nb y)
  have ht : nb t < 2 ^ 60 := by rw [a3]; exact sT_60 (nb y)
  clear a1 a2 a3 bz
  have a4 : nb (bcD t) = nb t + nb t / 256 := by
    unfold bcD
    have e : nb ((t.toUInt64 >>> ((8 : Int32).toInt64.toUInt64 &&& Int64.toUInt64 63)).toInt64) = nb t / 256 := nb_shr _ _ 8 (by decide +kernel)
    rw [nb_add (by rw [e]; omega), e]
  have a5 : nb (bcE (bcD t)) = nb (bcD t) + nb (bcD t) / 65536 := by
    unfold bcE
    have e : nb (((bcD t).toUInt64 >>> ((16 : Int32).toInt64.toUInt64 &&& Int64.toUInt64 63)).toInt64) = nb (bcD t) / 65536 := nb_shr _ _ 16 (by decide +kernel)
    rw [nb_add (by rw [e]; omega), e]
  have a6 : nb (bcF (bcE (bcD t))) = nb (bcE (bcD t)) + nb (bcE (bcD t)) / 4294967296 := by
    unfold bcF
    have e : nb (((bcE (bcD t)).toUInt64 >>> ((32 : Int32).toInt64.toUInt64 &&& Int64.toUInt64 63)).toInt64) = nb (bcE (bcD t)) / 4294967296 := nb_shr _ _ 32 (by decide +kernel)
    rw [nb_add (by rw [e]; omega), e]
  rw [pk_and _ 7 (by decide +kernel)]
  have e7 : (bcF (bcE (bcD t))).toInt32.toBitVec.toNat = nb (bcF (bcE (bcD t))) % 2 ^ 32 := by
    unfold nb
    rw [Int64.toBitVec_toInt32, BitVec.signExtend_eq_setWidth_of_le _ (by decide), BitVec.toNat_setWidth]
  rw [e7, Nat.mod_mod_of_dvd _ (by decide), a6, a5, a4, show 2 ^ 7 = 128 from rfl, hf, hb]
  congr 1
  generalize pc8 _ = u0
  generalize pc8 _ = u1
  generalize pc8 _ = u2
  generalize pc8 _ = u3
  generalize pc8 _ = u4
  generalize pc8 _ = u5
  generalize pc8 _ = u6
  generalize pc8 _ = u7
  clear hf hb
  omega
