/-! the chain, run by the kernel -/
theorem ck_2 : ∀ d, d < 14 → ab2 2 (d + 1) 0 = 2 ^ (d + 1) - 1 ∧ gon (stp 2 (d + 1)) 12 (2 ^ (d + 1) - 1) = (2 ^ (d + 1) - 1) * 32768 := by decide +kernel
theorem ck_3 : ∀ d, d < 9 → ab2 3 (d + 1) 0 = 3 ^ (d + 1) - 1 ∧ gon (stp 3 (d + 1)) 12 (3 ^ (d + 1) - 1) = (3 ^ (d + 1) - 1) * 32768 := by decide +kernel
theorem ck_4 : ∀ d, d < 7 → ab2 4 (d + 1) 0 = 4 ^ (d + 1) - 1 ∧ gon (stp 4 (d + 1)) 12 (4 ^ (d + 1) - 1) = (4 ^ (d + 1) - 1) * 32768 := by decide +kernel
theorem ck_5 : ∀ d, d < 6 → ab2 5 (d + 1) 0 = 5 ^ (d + 1) - 1 ∧ gon (stp 5 (d + 1)) 12 (5 ^ (d + 1) - 1) = (5 ^ (d + 1) - 1) * 32768 := by decide +kernel
