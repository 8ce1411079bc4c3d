/-! RECURRENCE, pure: sums of a row with a recurrence; the cross-sum -/
def cvs (s f : Nat → Nat) (a t : Nat) : Nat := su (fun p => f p * s (t - p)) (a + 1)
theorem su_m0 {F : Nat → Nat} {k : Nat} : ∀ q, (∀ i, i < q → F i % k = 0) → su F q % k = 0
  | 0, _ => Nat.zero_mod k
  | q + 1, h => by
    show (su F q + F q) % k = 0
    rw [Nat.add_mod, su_m0 q (fun i hi => h i (by omega)), h q (by omega)]
    exact Nat.zero_mod k
theorem su_cm {F : Nat → Nat} {c : Nat} : ∀ q, su (fun i => c * F i) q = c * su F q
  | 0 => rfl
  | q + 1 => by
    show su (fun i => c * F i) q + c * F q = c * (su F q + F q)
    rw [su_cm q, Nat.mul_add]
theorem m0_mul {a b k : Nat} (h : b % k = 0) : a * b % k = 0 := by rw [Nat.mul_mod, h, Nat.mul_zero, Nat.zero_mod]
def fld (k : Nat) : Prop := ∀ x y, x % k ≠ 0 → y % k ≠ 0 → x * y % k ≠ 0
theorem fld_ok {k : Nat} (h : k = 2 ∨ k = 3 ∨ k = 5) : fld k := by
  intro x y hx hy
  rw [Nat.mul_mod]
  have h1 := Nat.mod_lt x (show 0 < k by omega)
  have h2 := Nat.mod_lt y (show 0 < k by omega)
  generalize x % k = u at *
  generalize y % k = v at *
  rcases h with rfl | rfl | rfl
  · exact (show ∀ u, u < 2 → ∀ v, v < 2 → u ≠ 0 → v ≠ 0 → u * v % 2 ≠ 0 by decide +kernel) u h1 v h2 hx hy
  · exact (show ∀ u, u < 3 → ∀ v, v < 3 → u ≠ 0 → v ≠ 0 → u * v % 3 ≠ 0 by decide +kernel) u h1 v h2 hx hy
  · exact (show ∀ u, u < 5 → ∀ v, v < 5 → u ≠ 0 → v ≠ 0 → u * v % 5 ≠ 0 by decide +kernel) u h1 v h2 hx hy
theorem cross {s f g : Nat → Nat} {k a b m : Nat} (hk : fld k) (hg : ∀ t, a ≤ t → t < m → cvs s g a t % k = 0) (hgm : cvs s g a m % k ≠ 0) (hf : ∀ t, b ≤ t → t ≤ m → cvs s f b t % k = 0) (hf0 : f 0 % k ≠ 0) : m + 1 ≤ a + b := by
  apply Classical.byContradiction
  intro hab
  have e1 : su (fun p => su (fun q => g p * f q * s (m - p - q)) (b + 1)) (a + 1) = su (fun p => g p * cvs s f b (m - p)) (a + 1) := su_cg _ (fun p _ => by
    unfold cvs
    rw [← su_cm]
    exact su_cg _ (fun q _ => by rw [Nat.mul_assoc]))
  have e2 : su (fun p => su (fun q => g p * f q * s (m - p - q)) (b + 1)) (a + 1) = su (fun q => f q * cvs s g a (m - q)) (b + 1) := by
    rw [su_swap]
    refine su_cg _ (fun q _ => ?_)
    unfold cvs
    rw [← su_cm]
    exact su_cg _ (fun p _ => by rw [Nat.mul_comm (g p), Nat.mul_assoc, Nat.sub_right_comm])
  have z1 : su (fun p => g p * cvs s f b (m - p)) (a + 1) % k = 0 := su_m0 _ (fun p hp => m0_mul (hf _ (by omega) (by omega)))
  rw [← e1, e2, su_hd, Nat.add_mod, su_m0 b (fun q hq => m0_mul (hg _ (by omega) (by omega))), Nat.zero_add, Nat.mod_mod, Nat.sub_zero] at z1
  exact hk _ _ hf0 hgm z1
