/-! CONTENT: the class's formula, run by the kernel -/
noncomputable def fz {α : Type} (y : Int64) (f : Int64 → α) : α := fcn y.toBitVec.toNat (fun m => f (Int64.ofBitVec (BitVec.ofNat 64 m)))
theorem fz_eq {α : Type} (y : Int64) (f : Int64 → α) : fz y f = f y := by
  unfold fz
  rw [fcn_eq, BitVec.ofNat_toNat, BitVec.setWidth_eq, Int64.ofBitVec_toBitVec]
noncomputable def az (y : Int64) (p : Nat) : Nat → Int64
  | 0 => y
  | j + 1 => fz (az y p j) fun z => (z * (nI (p + j + 1)).toInt64) / (nI (j + 1)).toInt64
noncomputable def arw (c : Nat → Nat) (g : Nat) : Nat → Int64
  | 0 => 1
  | v + 1 => az (arw c g v) (su (fun u => c u / g) v) (c v / g)
def advb (c : Nat → Nat) (g : Nat) : Bool := Nat.beq (c 0 % g) 0 && Nat.beq (c 1 % g) 0 && Nat.beq (c 2 % g) 0 && Nat.beq (c 3 % g) 0 && Nat.beq (c 4 % g) 0
noncomputable def rof (c : Nat → Nat) : Nat → Int64
  | 0 => 0
  | q + 1 => cond (advb c (q + 1)) (fz (rof c q) fun z => z + (totF (q + 1)).toInt64 * arw c (q + 1) 5) (rof c q)
noncomputable def roS (n : Nat) (c : Nat → Nat) : Nat := su (fun i => cond (Nat.beq (n % (i + 1)) 0) (tot (n / (i + 1)) * cond (advb c (n / (i + 1))) (bf (i + 1) (c 0 / (n / (i + 1))) (c 1 / (n / (i + 1))) (c 2 / (n / (i + 1))) (c 3 / (n / (i + 1))) (c 4 / (n / (i + 1)))) 0) 0) n
def cvf (c0 c1 c2 c3 c4 : Nat) (v : Nat) : Nat := [c0, c1, c2, c3, c4].getD v 0
noncomputable def rok (n : Nat) (c : Nat → Nat) : Bool := Nat.beq ((rof c n / (nI n).toInt64).toInt32.toBitVec.toNat) (nI (roS n c / n)).toBitVec.toNat
theorem rk_2 : ∀ n, n < 15 → ∀ a, a < n + 1 → rok n (cvf a (n - a) 0 0 0) = true := by decide +kernel
theorem rk_3 : ∀ n, n < 10 → ∀ a, a < n + 1 → ∀ b, b < n + 1 - a → rok n (cvf a b (n - a - b) 0 0) = true := by decide +kernel
theorem rk_4 : ∀ n, n < 8 → ∀ a, a < n + 1 → ∀ b, b < n + 1 - a → ∀ c, c < n + 1 - a - b → rok n (cvf a b c (n - a - b - c) 0) = true := by decide +kernel
theorem rk_5 : ∀ n, n < 7 → ∀ a, a < n + 1 → ∀ b, b < n + 1 - a → ∀ c, c < n + 1 - a - b → ∀ d, d < n + 1 - a - b - c → rok n (cvf a b c d (n - a - b - c - d)) = true := by decide +kernel
