/-! WORDS as numbers: turning -/
def okW (k n : Nat) : Prop := 2 ≤ k ∧ k ≤ 5 ∧ 1 ≤ n ∧ n ≤ 14 ∧ k ^ n ≤ 20000
def tn (k n w : Nat) : Nat := w % k ^ (n - 1) * k + w / k ^ (n - 1)
def ti (k n : Nat) : Nat → Nat → Nat
  | 0, w => w
  | t + 1, w => tn k n (ti k n t w)
theorem dm_u {q r M X : Nat} (h : r < M) (hx : X = q * M + r) : X / M = q ∧ X % M = r := by
  subst hx
  have hM : 0 < M := by omega
  constructor
  · rw [Nat.add_comm, Nat.add_mul_div_right _ _ hM, Nat.div_eq_of_lt h, Nat.zero_add]
  · rw [Nat.add_comm, Nat.add_mul_mod_self_right, Nat.mod_eq_of_lt h]
theorem dm_lt {a b K M : Nat} (ha : a < M) (hb : b < K) : a * K + b < M * K := by
  have h1 : (a + 1) * K ≤ M * K := Nat.mul_le_mul_right K ha
  rw [Nat.add_mul, Nat.one_mul] at h1
  omega
theorem tn_two {k m t A B : Nat} (hk : 0 < k) (hB : B < k ^ t) : tn k (m + t + 1) (A * k ^ t + B) = A % k ^ m * k ^ (t + 1) + (B * k + A / k ^ m) := by
  have hM : 0 < k ^ m := Nat.pow_pos hk
  have e1 : k ^ (m + t + 1 - 1) = k ^ m * k ^ t := by rw [Nat.add_sub_cancel, Nat.pow_add]
  have h2 : A * k ^ t + B = A / k ^ m * (k ^ m * k ^ t) + (A % k ^ m * k ^ t + B) := by
    have h := Nat.div_add_mod A (k ^ m)
    calc A * k ^ t + B = (k ^ m * (A / k ^ m) + A % k ^ m) * k ^ t + B := by rw [h]
      _ = _ := by rw [Nat.add_mul, Nat.mul_comm (k ^ m) (A / k ^ m), Nat.mul_assoc, Nat.add_assoc]
  obtain ⟨d1, d2⟩ := dm_u (dm_lt (Nat.mod_lt A hM) hB) h2
  unfold tn
  rw [e1, d1, d2, Nat.add_mul, Nat.mul_assoc, ← Nat.pow_succ, Nat.add_assoc]
theorem ti_eq {k n w : Nat} (hk : 0 < k) (hw : w < k ^ n) : ∀ t, t ≤ n → ti k n t w = w % k ^ (n - t) * k ^ t + w / k ^ (n - t)
  | 0, _ => by
    show w = _
    rw [Nat.sub_zero, Nat.mod_eq_of_lt hw, Nat.div_eq_of_lt hw, Nat.pow_zero, Nat.mul_one, Nat.add_zero]
  | t + 1, ht => by
    obtain ⟨m, rfl⟩ : ∃ m, n = m + t + 1 := ⟨n - t - 1, by omega⟩
    have ih := ti_eq hk hw t (by omega)
    show tn k (m + t + 1) (ti k (m + t + 1) t w) = _
    have e0 : m + t + 1 - t = m + 1 := by omega
    have e1 : m + t + 1 - (t + 1) = m := by omega
    rw [e0] at ih
    rw [ih, e1]
    have hB : w / k ^ (m + 1) < k ^ t := by
      rw [Nat.div_lt_iff_lt_mul (Nat.pow_pos hk), ← Nat.pow_add]
      rw [show t + (m + 1) = m + t + 1 by omega]
      exact hw
    rw [tn_two hk hB]
    have e2 : w % k ^ (m + 1) % k ^ m = w % k ^ m := Nat.mod_mod_of_dvd w (Nat.pow_dvd_pow k (Nat.le_succ m))
    have e3 : w / k ^ (m + 1) * k + w % k ^ (m + 1) / k ^ m = w / k ^ m := by
      have hM : 0 < k ^ m := Nat.pow_pos hk
      have h := Nat.div_add_mod w (k ^ (m + 1))
      have h2 : w = (w / k ^ (m + 1) * k) * k ^ m + w % k ^ (m + 1) := by
        calc w = k ^ (m + 1) * (w / k ^ (m + 1)) + w % k ^ (m + 1) := h.symm
          _ = _ := by rw [Nat.pow_succ, Nat.mul_comm (k ^ m * k), Nat.mul_assoc (w / _), Nat.mul_comm k]
      have h3 : w / k ^ m = (w % k ^ (m + 1) + (w / k ^ (m + 1) * k) * k ^ m) / k ^ m := by rw [Nat.add_comm, ← h2]
      rw [h3, Nat.add_mul_div_right _ _ hM, Nat.add_comm]
    rw [e2, e3]
theorem ti_n {k n w : Nat} (hk : 0 < k) (hw : w < k ^ n) : ti k n n w = w := by
  rw [ti_eq hk hw n (Nat.le_refl n), Nat.sub_self, Nat.pow_zero, Nat.mod_one, Nat.div_one, Nat.zero_mul, Nat.zero_add]
theorem tn_lt {k n w : Nat} (hk : 0 < k) (hn : 1 ≤ n) (hw : w < k ^ n) : tn k n w < k ^ n := by
  obtain ⟨m, rfl⟩ : ∃ m, n = m + 1 := ⟨n - 1, by omega⟩
  unfold tn
  rw [Nat.add_sub_cancel]
  have h1 : w / k ^ m < k := by
    rw [Nat.div_lt_iff_lt_mul (Nat.pow_pos hk), Nat.mul_comm, ← Nat.pow_succ]
    exact hw
  rw [Nat.pow_succ]
  exact dm_lt (Nat.mod_lt _ (Nat.pow_pos hk)) h1
theorem ti_lt {k n w : Nat} (hk : 0 < k) (hn : 1 ≤ n) (hw : w < k ^ n) : ∀ t, ti k n t w < k ^ n
  | 0 => hw
  | t + 1 => tn_lt hk hn (ti_lt hk hn hw t)
theorem ti_add (k n w a : Nat) : ∀ b, ti k n (a + b) w = ti k n b (ti k n a w)
  | 0 => rfl
  | b + 1 => by
    show tn k n (ti k n (a + b) w) = tn k n (ti k n b (ti k n a w))
    rw [ti_add k n w a b]
/-- the least of the first turnings -/
def lm (k n w : Nat) : Nat → Nat
  | 0 => w
  | t + 1 => min (lm k n w t) (ti k n (t + 1) w)
/-- the LEAST of a word's ring -/
def lo (k n w : Nat) : Nat := lm k n w (n - 1)
/-- after how many turnings, of the first t, the least is first met -/
def ls (k n w : Nat) : Nat → Nat
  | 0 => 0
  | t + 1 => if ti k n (t + 1) w < lm k n w t then t + 1 else ls k n w t
theorem okW.pos {k n : Nat} (h : okW k n) : 0 < k := by have := h.1; omega
theorem okW.le {k n : Nat} (h : okW k n) {i : Nat} (hi : i ≤ n) : k ^ i ≤ 20000 := Nat.le_trans (Nat.pow_le_pow_right h.pos hi) h.2.2.2.2
theorem okW.pp {k n : Nat} (h : okW k n) (i : Nat) : 0 < k ^ i := Nat.pow_pos h.pos
theorem lm_le (k n w : Nat) : ∀ t, lm k n w t ≤ w
  | 0 => Nat.le_refl _
  | t + 1 => Nat.le_trans (Nat.min_le_left _ _) (lm_le k n w t)
theorem lm_lt {k n w : Nat} (hw : w < k ^ n) (t : Nat) : lm k n w t < k ^ n := Nat.lt_of_le_of_lt (lm_le k n w t) hw
/-- the words' object -/
abbrev cW (k n : Nat) : ce := (6, .inl [.ref 4, .int (nI k), .int (nI n), .int (nI (k ^ n)), .int (nI (k ^ (n - 1)))])
def isP (k n : Nat) (f : Nat → Int32) : Prop := ∀ i, i ≤ n → f i = nI (k ^ i)
abbrev Rv (v : Value) (h : ah) : Option Value → ah → Prop := fun r h2 => r = some v ∧ h2 = h
theorem nI_n0 {a : Nat} (h0 : 0 < a) (h : a ≤ 20000) : ¬ nI a = 0 := nI_ne0 h0 (by omega)
