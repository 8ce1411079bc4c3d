/-! RECURRENCE, pure: each step keeps what stands -/
section BMS
variable {k : Nat} {s : Nat → Nat} {i L eg sh i1 L2 : Nat} {nw ea : Nat → Nat}
theorem BI_0 (hk : 2 ≤ k) : BI k s 0 (fun j => if j = 0 then 1 else 0) (fun j => if j = 0 then 1 else 0) 0 1 1 0 0 := by
  have h1 : ∀ j, (if j = 0 then 1 else 0) < k := fun j => by split <;> omega
  exact ⟨Nat.le_refl _, rfl, rfl, h1, h1, rfl, rfl, fun j hj => if_neg (by omega), fun j hj => if_neg (by omega), fun t _ h => by omega, ⟨by omega, by omega⟩, fun h => by omega, fun a g h => by omega, fun a g h => by omega⟩
theorem BI_z (h : BI k s i nw ea L eg sh i1 L2) (hd : cvs s nw L i % k = 0) : BI k s (i + 1) nw ea L eg (sh + 1) i1 L2 := by
  obtain ⟨a1, a2, a3, a4, a5, a6, a7, a8, a9, b1, b2, b3, b4, b5⟩ := h
  refine ⟨by omega, a2, by omega, a4, a5, a6, a7, a8, a9, fun t h1 h2 => ?_, b2, b3, b4, b5⟩
  by_cases hti : t = i
  · rw [hti]; exact hd
  · exact b1 t h1 (by omega)
/-- what is left is 0 behind the change -/
theorem BI_an (hp : k = 2 ∨ k = 3 ∨ k = 5) (h : BI k s i nw ea L eg sh i1 L2) {A : Nat} (hA1 : L ≤ A) (hA2 : sh + L2 ≤ A) (hi1 : 1 ≤ i1) : ∀ t, A ≤ t → t < i + 1 → cvs s (sbt k nw ea (cvs s nw L i % k * iv k eg % k) sh) A t % k = 0 := by
  obtain ⟨a1, a2, a3, a4, a5, a6, a7, a8, a9, b1, b2, b3, b4, b5⟩ := h
  obtain ⟨c1, c2⟩ := b3 hi1
  have hk : 0 < k := by omega
  intro t h1 h2
  rw [cvs_sbt hA1 hA2 a8 a9 (by omega)]
  by_cases hti : t = i
  · have e1 : t - sh = i1 - 1 := by omega
    have e2 : (k - cvs s nw L i % k * iv k eg % k) * cvs s ea L2 (i1 - 1) % k = (k - cvs s nw L i % k * iv k eg % k) * eg % k := by rw [← Nat.mul_mod_mod, c2]
    rw [e1, hti, Nat.add_mod, e2, Nat.add_mod_mod]
    exact neg_eq hk (iv_ok hp b2.1 b2.2)
  · rw [Nat.add_mod, b1 t (by omega) (by omega), m0_mul (c1 (t - sh) (by omega) (by omega))]
    exact Nat.zero_mod k
theorem BI_long (hp : k = 2 ∨ k = 3 ∨ k = 5) (h : BI k s i nw ea L eg sh i1 L2) (hd : cvs s nw L i % k ≠ 0) (hl : 2 * L ≤ i) : BI k s (i + 1) (sbt k nw ea (cvs s nw L i % k * iv k eg % k) sh) nw (i + 1 - L) (cvs s nw L i % k) 1 (i + 1) L := by
  have hk : 0 < k := by omega
  have han := fun hi1 => BI_an hp h (A := i + 1 - L) (by omega) (by have := h.2.1; have := h.2.2.1; omega) hi1
  obtain ⟨a1, a2, a3, a4, a5, a6, a7, a8, a9, b1, b2, b3, b4, b5⟩ := h
  refine ⟨Nat.le_refl _, by omega, by omega, sbt_lt hk a4, a4, ?_, a6, fun j hj => ?_, a8, fun t h1 h2 => ?_, ⟨Nat.pos_of_ne_zero hd, Nat.mod_lt _ hk⟩, fun _ => ⟨fun t h1 h2 => b1 t h1 (by omega), by rw [Nat.add_sub_cancel]⟩, fun a g h1 h2 h3 => ?_, fun a g h1 h2 h3 => ?_⟩
  · unfold sbt
    rw [if_neg (by omega)]
    exact a6
  · unfold sbt
    rw [a8 j (by omega)]
    split
    · rw [a9 (j - sh) (by omega), Nat.mul_zero, Nat.add_zero, Nat.zero_mod]
    · rfl
  · by_cases hi1 : 1 ≤ i1
    · exact han hi1 t h1 h2
    · omega
  · have := cross (fld_ok hp) (b := a) (f := g) b1 hd (fun t q1 q2 => h3 t q1 (by omega)) h2
    omega
  · exact b4 a g h1 h2 (fun t q1 q2 => h3 t q1 (by omega))
theorem BI_same (hp : k = 2 ∨ k = 3 ∨ k = 5) (h : BI k s i nw ea L eg sh i1 L2) (hl : i < 2 * L) : BI k s (i + 1) (sbt k nw ea (cvs s nw L i % k * iv k eg % k) sh) ea L eg (sh + 1) i1 L2 := by
  have hk : 0 < k := by omega
  have han := BI_an hp h (A := L) (Nat.le_refl _) (by have := h.2.1; have := h.2.2.1; omega) (by have := h.2.1; omega)
  obtain ⟨a1, a2, a3, a4, a5, a6, a7, a8, a9, b1, b2, b3, b4, b5⟩ := h
  refine ⟨by omega, a2, by omega, sbt_lt hk a4, a5, ?_, a7, fun j hj => ?_, a9, han, b2, b3, b4, b5⟩
  · unfold sbt
    rw [if_neg (by omega)]
    exact a6
  · unfold sbt
    rw [a8 j (by omega)]
    split
    · rw [a9 (j - sh) (by omega), Nat.mul_zero, Nat.add_zero, Nat.zero_mod]
    · rfl
end BMS
