/-! Long.bitCount counts bits -/
def nb (y : Int64) : Nat := y.toBitVec.toNat
theorem nb_lt (y : Int64) : nb y < 2 ^ 64 := y.toBitVec.isLt
theorem nb_and (a b : Int64) : nb (a &&& b) = nb a &&& nb b := by
  unfold nb
  rw [Int64.toBitVec_and, BitVec.toNat_and]
theorem nb_or (a b : Int64) : nb (a ||| b) = nb a ||| nb b := by
  unfold nb
  rw [Int64.toBitVec_or, BitVec.toNat_or]
theorem nb_add {a b : Int64} (h : nb a + nb b < 2 ^ 64) : nb (a + b) = nb a + nb b := by
  unfold nb at *
  rw [Int64.toBitVec_add, BitVec.toNat_add, Nat.mod_eq_of_lt h]
theorem nb_sub {a b : Int64} (h : nb b ≤ nb a) : nb (a - b) = nb a - nb b := by
  unfold nb at *
  rw [Int64.toBitVec_sub]
  exact BitVec.toNat_sub_of_le (BitVec.le_def.mpr h)
theorem nb_shr (a : Int64) (s : Int32) (k : Nat) (hs : ((s.toInt64.toUInt64 &&& Int64.toUInt64 63).toBitVec % 64).toNat = k) : nb ((a.toUInt64 >>> (s.toInt64.toUInt64 &&& Int64.toUInt64 63)).toInt64) = nb a / 2 ^ k := by
  have e : (a.toUInt64 >>> (s.toInt64.toUInt64 &&& Int64.toUInt64 63)).toInt64.toBitVec = a.toBitVec >>> k := by
    rw [← hs]
    exact UInt64.toBitVec_shiftRight _ _
  unfold nb
  rw [e, BitVec.toNat_ushiftRight, Nat.shiftRight_eq_div_pow]
def mk8 (c : Nat) : Nat → Nat
  | 0 => 0
  | m + 1 => c + 256 * mk8 c m
theorem and_sp {a0 a c M : Nat} (ha : a0 < 256) (hc : c < 256) : (a0 + 256 * a) &&& (c + 256 * M) = (a0 &&& c) + 256 * (a &&& M) := by
  have h1 : ((a0 + 256 * a) &&& (c + 256 * M)) % 2 ^ 8 = a0 &&& c := by
    rw [Nat.and_mod_two_pow, show (a0 + 256 * a) % 2 ^ 8 = a0 by omega, show (c + 256 * M) % 2 ^ 8 = c by omega]
  have h2 : ((a0 + 256 * a) &&& (c + 256 * M)) / 2 ^ 8 = a &&& M := by
    rw [Nat.and_div_two_pow, show (a0 + 256 * a) / 2 ^ 8 = a by omega, show (c + 256 * M) / 2 ^ 8 = M by omega]
  have h3 := Nat.div_add_mod ((a0 + 256 * a) &&& (c + 256 * M)) (2 ^ 8)
  rw [h1, h2] at h3
  omega
def by1 (x : Nat) : Nat := x - ((x / 2) &&& 85)
def by2 (y : Nat) : Nat := (y &&& 51) + ((y / 4) &&& 51)
def pc8 (x : Nat) : Nat := x % 2 + x / 2 % 2 + x / 4 % 2 + x / 8 % 2 + x / 16 % 2 + x / 32 % 2 + x / 64 % 2 + x / 128 % 2
theorem tb_85 : ∀ u, u < 128 → ∀ b, b < 2 → (u + 128 * b) &&& 85 = u &&& 85 := by decide +kernel
theorem tb_51 : ∀ u, u < 64 → ∀ b, b < 4 → (u + 64 * b) &&& 51 = u &&& 51 := by decide +kernel
theorem tb_z : ∀ x, x < 256 → by1 x < 256 ∧ by2 (by1 x) % 16 ≤ 4 ∧ by2 (by1 x) < 256 ∧ pc8 x ≤ 8 := by decide +kernel
theorem tb_15 : ∀ x, x < 256 → ∀ c, c < 5 → by2 (by1 x) + by2 (by1 x) / 16 + 16 * c < 256 ∧ (by2 (by1 x) + by2 (by1 x) / 16 + 16 * c) &&& 15 = pc8 x := by decide +kernel
