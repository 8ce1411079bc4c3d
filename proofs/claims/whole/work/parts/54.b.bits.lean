/-! bits: sums -/
def sY : Nat → Nat → Nat
  | 0, _ => 0
  | m + 1, x => by1 (x % 256) + 256 * sY m (x / 256)
def sZ : Nat → Nat → Nat
  | 0, _ => 0
  | m + 1, x => by2 (by1 (x % 256)) + 256 * sZ m (x / 256)
def sT : Nat → Nat → Nat
  | 0, _ => 0
  | m + 1, x => pc8 (x % 256) + 256 * sT m (x / 256)
theorem st_1 : ∀ m x, x < 256 ^ m → x - ((x / 2) &&& mk8 85 m) = sY m x
  | 0, x, h => by
    have : x = 0 := by simpa using h
    subst this
    rfl
  | m + 1, x, h => by
    have hx1 : x / 256 < 256 ^ m := by rw [Nat.pow_succ] at h; exact Nat.div_lt_of_lt_mul (by omega)
    have ih := st_1 m (x / 256) hx1
    have e2 : x / 2 = (x % 256 / 2 + 128 * (x / 256 % 2)) + 256 * (x / 256 / 2) := by omega
    have e3 : (x / 2) &&& mk8 85 (m + 1) = (x % 256 / 2 &&& 85) + 256 * ((x / 256 / 2) &&& mk8 85 m) := by
      show (x / 2) &&& (85 + 256 * mk8 85 m) = _
      rw [e2, and_sp (by omega) (by omega), tb_85 _ (by omega) _ (by omega)]
    have l1 : (x % 256 / 2 &&& 85) ≤ x % 256 / 2 := Nat.and_le_left
    have l2 : ((x / 256 / 2) &&& mk8 85 m) ≤ x / 256 / 2 := Nat.and_le_left
    show _ = by1 (x % 256) + 256 * sY m (x / 256)
    rw [e3, ← ih, by1]
    omega
theorem st_2 : ∀ m x, (sY m x &&& mk8 51 m) + ((sY m x / 4) &&& mk8 51 m) = sZ m x
  | 0, x => by simp [sY, sZ, sT, mk8]
  | m + 1, x => by
    have ih := st_2 m (x / 256)
    have t1 := (tb_z (x % 256) (by omega)).1
    generalize hy : sY m (x / 256) = y1 at ih
    have e1 : sY (m + 1) x = by1 (x % 256) + 256 * y1 := by rw [← hy]; rfl
    generalize hy0 : by1 (x % 256) = y0 at t1 e1
    have e2 : (y0 + 256 * y1) / 4 = (y0 / 4 + 64 * (y1 % 4)) + 256 * (y1 / 4) := by omega
    have e3 : (y0 + 256 * y1) &&& mk8 51 (m + 1) = (y0 &&& 51) + 256 * (y1 &&& mk8 51 m) := and_sp t1 (by omega)
    have e4 : ((y0 + 256 * y1) / 4) &&& mk8 51 (m + 1) = ((y0 / 4) &&& 51) + 256 * ((y1 / 4) &&& mk8 51 m) := by
      rw [e2]
      show ((y0 / 4 + 64 * (y1 % 4)) + 256 * (y1 / 4)) &&& (51 + 256 * mk8 51 m) = _
      rw [and_sp (by omega) (by omega), tb_51 _ (by omega) _ (by omega)]
    show _ = by2 (by1 (x % 256)) + 256 * sZ m (x / 256)
    rw [hy0]
    rw [e1, e3, e4, ← ih, by2]
    omega
theorem sZ_n : ∀ m x, sZ m x % 16 ≤ 4
  | 0, x => by show 0 % 16 ≤ 4; decide
  | m + 1, x => by
    have := (tb_z (x % 256) (by omega)).2.1
    show (by2 (by1 (x % 256)) + 256 * sZ m (x / 256)) % 16 ≤ 4
    omega
theorem st_3 : ∀ m x, (sZ m x + sZ m x / 16) &&& mk8 15 m = sT m x
  | 0, x => by simp [sY, sZ, sT, mk8]
  | m + 1, x => by
    have ih := st_3 m (x / 256)
    have hn := sZ_n m (x / 256)
    have t1 := tb_15 (x % 256) (by omega) (sZ m (x / 256) % 16) (by omega)
    have e1 : sZ (m + 1) x = by2 (by1 (x % 256)) + 256 * sZ m (x / 256) := rfl
    show _ = pc8 (x % 256) + 256 * sT m (x / 256)
    rw [e1, ← ih, ← t1.2]
    generalize by2 (by1 (x % 256)) = z0 at t1 ⊢
    generalize sZ m (x / 256) = z1 at t1 hn ⊢
    have e2 : z0 + 256 * z1 + (z0 + 256 * z1) / 16 = (z0 + z0 / 16 + 16 * (z1 % 16)) + 256 * (z1 + z1 / 16) := by omega
    rw [e2]
    exact and_sp t1.1 (by omega)
/-- how many of the first m bits are set -/
def bcn (x : Nat) : Nat → Nat
  | 0 => 0
  | m + 1 => bcn x m + x / 2 ^ m % 2
theorem bcn_8 (x : Nat) : ∀ m, bcn x (8 + m) = pc8 (x % 256) + bcn (x / 256) m
  | 0 => by
    have h0 : x % 256 % 2 = x % 2 := by omega
    have h1 : x % 256 / 2 % 2 = x / 2 % 2 := by omega
    have h2 : x % 256 / 4 % 2 = x / 4 % 2 := by omega
    have h3 : x % 256 / 8 % 2 = x / 8 % 2 := by omega
    have h4 : x % 256 / 16 % 2 = x / 16 % 2 := by omega
    have h5 : x % 256 / 32 % 2 = x / 32 % 2 := by omega
    have h6 : x % 256 / 64 % 2 = x / 64 % 2 := by omega
    have h7 : x % 256 / 128 % 2 = x / 128 % 2 := by omega
    have e : bcn x (8 + 0) = 0 + x / 1 % 2 + x / 2 % 2 + x / 4 % 2 + x / 8 % 2 + x / 16 % 2 + x / 32 % 2 + x / 64 % 2 + x / 128 % 2 := rfl
    rw [e, pc8, h0, h1, h2, h3, h4, h5, h6, h7, Nat.div_one, Nat.zero_add]
    rfl
  | m + 1 => by
    have e : x / 2 ^ (8 + m) = x / 256 / 2 ^ m := by rw [Nat.pow_add, ← Nat.div_div_eq_div_mul]
    have e1 : bcn x (8 + (m + 1)) = bcn x (8 + m) + x / 2 ^ (8 + m) % 2 := rfl
    have e2 : bcn (x / 256) (m + 1) = bcn (x / 256) m + x / 256 / 2 ^ m % 2 := rfl
    rw [e1, e2, bcn_8 x m, e, Nat.add_assoc]
theorem bcn_64 (x : Nat) : bcn x 64 = pc8 (x % 256) + (pc8 (x / 256 % 256) + (pc8 (x / 256 / 256 % 256) + (pc8 (x / 256 / 256 / 256 % 256) + (pc8 (x / 256 / 256 / 256 / 256 % 256) + (pc8 (x / 256 / 256 / 256 / 256 / 256 % 256) + (pc8 (x / 256 / 256 / 256 / 256 / 256 / 256 % 256) + (pc8 (x / 256 / 256 / 256 / 256 / 256 / 256 / 256 % 256) + 0))))))) := by
  have h1 : bcn x 64 = _ := bcn_8 x 56
  have h2 : bcn (x / 256) 56 = _ := bcn_8 (x / 256) 48
  have h3 : bcn (x / 256 / 256) 48 = _ := bcn_8 (x / 256 / 256) 40
  have h4 : bcn (x / 256 / 256 / 256) 40 = _ := bcn_8 (x / 256 / 256 / 256) 32
  have h5 : bcn (x / 256 / 256 / 256 / 256) 32 = _ := bcn_8 (x / 256 / 256 / 256 / 256) 24
  have h6 : bcn (x / 256 / 256 / 256 / 256 / 256) 24 = _ := bcn_8 (x / 256 / 256 / 256 / 256 / 256) 16
  have h7 : bcn (x / 256 / 256 / 256 / 256 / 256 / 256) 16 = _ := bcn_8 (x / 256 / 256 / 256 / 256 / 256 / 256) 8
  have h8 : bcn (x / 256 / 256 / 256 / 256 / 256 / 256 / 256) 8 = _ := bcn_8 (x / 256 / 256 / 256 / 256 / 256 / 256 / 256) 0
  rw [h1, h2, h3, h4, h5, h6, h7, h8]
  rfl
