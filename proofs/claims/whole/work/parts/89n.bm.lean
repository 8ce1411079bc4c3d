/-! RECURRENCE, pure: the steps of the least length, and the lowering -/
def ivs (k v : Nat) : Nat → Nat → Nat
  | 0, x => x
  | f + 1, x => if x * v % k = 1 then x else ivs k v f (x + 1)
abbrev iv (k v : Nat) : Nat := ivs k v k 1
theorem iv_ok {k v : Nat} (h : k = 2 ∨ k = 3 ∨ k = 5) (h1 : 0 < v) (h2 : v < k) : iv k v * v % k = 1 := by
  rcases h with rfl | rfl | rfl
  · exact (show ∀ v, v < 2 → 0 < v → iv 2 v * v % 2 = 1 by decide +kernel) v h2 h1
  · exact (show ∀ v, v < 3 → 0 < v → iv 3 v * v % 3 = 1 by decide +kernel) v h2 h1
  · exact (show ∀ v, v < 5 → 0 < v → iv 5 v * v % 5 = 1 by decide +kernel) v h2 h1
/-- the earlier one, so many times and moved on, taken away -/
def sbt (k : Nat) (nw ea : Nat → Nat) (y sh : Nat) : Nat → Nat := fun j => if sh ≤ j then (nw j + (k - y) * ea (j - sh)) % k else nw j
theorem sbt_lt {k : Nat} {nw ea : Nat → Nat} {y sh : Nat} (hk : 0 < k) (h : ∀ j, nw j < k) : ∀ j, sbt k nw ea y sh j < k := fun j => by
  unfold sbt
  split
  · exact Nat.mod_lt _ hk
  · exact h j
theorem su_mm {F H : Nat → Nat} {k : Nat} : ∀ q, (∀ i, i < q → F i % k = H i % k) → su F q % k = su H q % k
  | 0, _ => rfl
  | q + 1, h => by
    show (su F q + F q) % k = (su H q + H q) % k
    rw [Nat.add_mod, su_mm q (fun i hi => h i (by omega)), h q (by omega), ← Nat.add_mod]
theorem su_cut {F : Nat → Nat} (a : Nat) : ∀ b, (∀ i, a ≤ i → i < a + b → F i = 0) → su F (a + b) = su F a
  | 0, _ => rfl
  | b + 1, h => by
    show su F (a + b) + F (a + b) = su F a
    rw [su_cut a b (fun i h1 h2 => h i h1 (by omega)), h (a + b) (by omega) (by omega)]
    rfl
theorem su_lo {F : Nat → Nat} (a : Nat) (b : Nat) (h : ∀ i, i < a → F i = 0) : su F (a + b) = su (fun i => F (a + i)) b := by
  rw [su_app, su_0 a h, Nat.zero_add]
theorem cvs_sbt {s nw ea : Nat → Nat} {k y sh L L2 A t : Nat} (h1 : L ≤ A) (h2 : sh + L2 ≤ A) (hn : ∀ j, L < j → nw j = 0) (he : ∀ j, L2 < j → ea j = 0) (ht : sh + L2 ≤ t) : cvs s (sbt k nw ea y sh) A t % k = (cvs s nw L t + (k - y) * cvs s ea L2 (t - sh)) % k := by
  have e1 : cvs s nw L t = su (fun p => nw p * s (t - p)) (A + 1) := by
    have := su_cut (F := fun p => nw p * s (t - p)) (L + 1) (A - L) (fun i a b => by rw [hn i (by omega), Nat.zero_mul])
    rw [show L + 1 + (A - L) = A + 1 by omega] at this
    exact this.symm
  have e2 : (k - y) * cvs s ea L2 (t - sh) = su (fun p => if sh ≤ p then (k - y) * ea (p - sh) * s (t - p) else 0) (A + 1) := by
    have q1 := su_lo (F := fun p => if sh ≤ p then (k - y) * ea (p - sh) * s (t - p) else 0) sh (A + 1 - sh) (fun i hi => if_neg (by omega))
    rw [show sh + (A + 1 - sh) = A + 1 by omega] at q1
    rw [q1]
    have q2 := su_cut (F := fun i => if sh ≤ sh + i then (k - y) * ea (sh + i - sh) * s (t - (sh + i)) else 0) (L2 + 1) (A + 1 - sh - (L2 + 1)) (fun i a b => by rw [Nat.add_sub_cancel_left, he i (by omega), Nat.mul_zero, Nat.zero_mul]; split <;> rfl)
    rw [show L2 + 1 + (A + 1 - sh - (L2 + 1)) = A + 1 - sh by omega] at q2
    rw [q2]
    unfold cvs
    rw [← su_cm]
    refine su_cg _ (fun i _ => ?_)
    rw [if_pos (by omega), Nat.add_sub_cancel_left, Nat.mul_assoc, Nat.sub_sub]
  rw [e1, e2, ← su_plus]
  unfold cvs
  refine su_mm _ (fun p _ => ?_)
  unfold sbt
  by_cases hp : sh ≤ p
  · rw [if_pos hp, if_pos hp, Nat.mod_mul_mod, Nat.add_mul]
  · rw [if_neg hp, if_neg hp, Nat.add_zero]
theorem neg_eq {k d e c : Nat} (hk : 0 < k) (hc : c * e % k = 1) : (d + (k - d * c % k) * e) % k = 0 := by
  have h1 : d * c % k * e % k = d % k := by
    rw [Nat.mod_mul_mod, Nat.mul_assoc, Nat.mul_mod, hc]
    by_cases h : k = 1
    · rw [h, Nat.mod_one, Nat.mod_one]
    · rw [Nat.mul_one, Nat.mod_mod]
  have h2 := Nat.mod_lt (d * c) hk
  have h3 : (k - d * c % k) * e + d * c % k * e = k * e := by rw [← Nat.add_mul]; congr 1; omega
  rw [Nat.add_mod, ← h1, ← Nat.add_mod, Nat.add_comm, h3, Nat.mul_mod_right]
/-- what stands after i items -/
def BI (k : Nat) (s : Nat → Nat) (i : Nat) (nw ea : Nat → Nat) (L eg sh i1 L2 : Nat) : Prop :=
  i1 ≤ i ∧ L + L2 = i1 ∧ sh + i1 = i + 1 ∧ (∀ j, nw j < k) ∧ (∀ j, ea j < k) ∧ nw 0 = 1 ∧ ea 0 = 1 ∧ (∀ j, L < j → nw j = 0) ∧ (∀ j, L2 < j → ea j = 0) ∧ (∀ t, L ≤ t → t < i → cvs s nw L t % k = 0) ∧ (0 < eg ∧ eg < k) ∧ (1 ≤ i1 → (∀ t, L2 ≤ t → t + 1 < i1 → cvs s ea L2 t % k = 0) ∧ cvs s ea L2 (i1 - 1) % k = eg) ∧ (∀ a g, a < L → g 0 % k ≠ 0 → ¬ ∀ t, a ≤ t → t < i1 → cvs s g a t % k = 0) ∧ (∀ a g, a < L2 → g 0 % k ≠ 0 → ¬ ∀ t, a ≤ t → t + 1 < i1 → cvs s g a t % k = 0)
