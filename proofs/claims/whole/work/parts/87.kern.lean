/-! the chain, run by the kernel -/
theorem ck_2_8 : gon (stp 2 8) 12 (2 ^ 8 - 1) = (2 ^ 8 - 1) * 32768 := by decide +kernel
