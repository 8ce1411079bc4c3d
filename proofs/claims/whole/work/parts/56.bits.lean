/-! bitCount: its contract -/
theorem C_bitCount {G : gx} {h : ah} (y : Int64) {d : Nat} : Ct G mJ13_bitCount_95d88 d 0 0 [.long y] h (Rv (.int (nI (bcn (nb y) 64))) h) :=
  Ct_of (by decide +kernel) (Nat.le_of_ble_eq_true rfl) (V_sub (by exact (And.intro rfl True.intro)) (tJ13_bitCount_95d88_0 ⟨congrArg (fun z => some (Value.int z)) (bc_eq y), rfl⟩))
