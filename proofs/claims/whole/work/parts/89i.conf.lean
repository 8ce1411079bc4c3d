/-! CONTENT: formula and count -/
section CF
variable {k n : Nat}
theorem rok_e {c : Nat → Nat} (h : rok n c = true) : (rof c n / (nI n).toInt64).toInt32 = nI (roS n c / n) := by
  have h2 := Nat.eq_of_beq_eq_true h
  exact Int32.toBitVec_inj.mp (BitVec.eq_of_toNat_eq h2)
theorem rk_all {c0 c1 c2 c3 c4 : Nat} (ok : okW k n) (h2 : k ≤ 2 → c2 = 0) (h3 : k ≤ 3 → c3 = 0) (h4 : k ≤ 4 → c4 = 0) (hs : c0 + c1 + c2 + c3 + c4 = n) : rok n (cvf c0 c1 c2 c3 c4) = true := by
  obtain ⟨k1, k2, n1, n2, h5⟩ := ok
  have hk : k = 2 ∨ k = 3 ∨ k = 4 ∨ k = 5 := by omega
  rcases hk with rfl | rfl | rfl | rfl
  · have := rk_2 n (by omega) c0 (by omega)
    rw [h2 (by omega), h3 (by omega), h4 (by omega), show c1 = n - c0 by have := h2 (by omega); have := h3 (by omega); have := h4 (by omega); omega]
    exact this
  · have hn : n < 10 := Nat.lt_of_not_le (fun q => absurd (Nat.le_trans (Nat.pow_le_pow_right (n := 3) (by decide) q) h5) (by decide))
    have := rk_3 n hn c0 (by omega) c1 (by omega)
    rw [h3 (by omega), h4 (by omega), show c2 = n - c0 - c1 by have := h3 (by omega); have := h4 (by omega); omega]
    exact this
  · have hn : n < 8 := Nat.lt_of_not_le (fun q => absurd (Nat.le_trans (Nat.pow_le_pow_right (n := 4) (by decide) q) h5) (by decide))
    have := rk_4 n hn c0 (by omega) c1 (by omega) c2 (by omega)
    rw [h4 (by omega), show c3 = n - c0 - c1 - c2 by have := h4 (by omega); omega]
    exact this
  · have hn : n < 7 := Nat.lt_of_not_le (fun q => absurd (Nat.le_trans (Nat.pow_le_pow_right (n := 5) (by decide) q) h5) (by decide))
    have := rk_5 n hn c0 (by omega) c1 (by omega) c2 (by omega) c3 (by omega)
    rw [show c4 = n - c0 - c1 - c2 - c3 by omega]
    exact this
theorem advb_iff {c : Nat → Nat} {g : Nat} : advb c g = true ↔ ∀ v, v < 5 → c v % g = 0 := by
  unfold advb
  constructor
  · intro h v hv
    simp only [Bool.and_eq_true] at h
    obtain ⟨⟨⟨⟨a0, a1⟩, a2⟩, a3⟩, a4⟩ := h
    match v, hv with
    | 0, _ => exact Nat.eq_of_beq_eq_true a0
    | 1, _ => exact Nat.eq_of_beq_eq_true a1
    | 2, _ => exact Nat.eq_of_beq_eq_true a2
    | 3, _ => exact Nat.eq_of_beq_eq_true a3
    | 4, _ => exact Nat.eq_of_beq_eq_true a4
  · intro h
    rw [beq_t (h 0 (by decide)), beq_t (h 1 (by decide)), beq_t (h 2 (by decide)), beq_t (h 3 (by decide)), beq_t (h 4 (by decide))]
    rfl
/-- how many rings have these amounts -/
noncomputable def crg (k n : Nat) (c : Nat → Nat) : Nat → Nat := cs (fun w => decide (lo k n w = w) && pc k n c w)
theorem roS_eq {c : Nat → Nat} (ok : okW k n) (hz : ∀ v, k ≤ v → v < 5 → c v = 0) : roS n c = n * crg k n c (k ^ n) := by
  unfold crg
  rw [← burN ok (fun x hx => pc_tn ok hx)]
  refine su_cg n (fun i hi => ?_)
  by_cases hd : n % (i + 1) = 0
  · have h1 : 1 ≤ i + 1 := by omega
    have h2 : i + 1 ≤ n := by omega
    rw [if_pos hd, beq_t hd, cond_true, csc _ (fun y hy => pc_rp ok h1 h2 hd hy)]
    congr 1
    cases ha : advb c (n / (i + 1)) with
    | true =>
      rw [cond_true, dc_t (advb_iff.mp ha)]
      have := bf_eq ok.pos ok.2.1 (i + 1) (fun v => c v / (n / (i + 1))) (fun v a b => by rw [hz v a b, Nat.zero_div])
      rw [← this]
      exact csc _ (fun y _ => (Bool.true_and _).symm)
    | false =>
      rw [cond_false, dc_f (fun z => by rw [advb_iff.mpr z] at ha; exact Bool.noConfusion ha), csc (q := fun _ => false) _ (fun y _ => Bool.false_and _), csz]
  · rw [if_neg hd, beq_f hd, cond_false]
theorem rof_ok {c0 c1 c2 c3 c4 : Nat} (ok : okW k n) (h2 : k ≤ 2 → c2 = 0) (h3 : k ≤ 3 → c3 = 0) (h4 : k ≤ 4 → c4 = 0) (hs : c0 + c1 + c2 + c3 + c4 = n) : (rof (cvf c0 c1 c2 c3 c4) n / (nI n).toInt64).toInt32 = nI (crg k n (cvf c0 c1 c2 c3 c4) (k ^ n)) := by
  have hk := ok.1
  rw [rok_e (rk_all ok h2 h3 h4 hs), roS_eq ok (fun v a b => by
    match v, b with
    | 0, _ => omega
    | 1, _ => omega
    | 2, _ => exact h2 a
    | 3, _ => exact h3 a
    | 4, _ => exact h4 a), Nat.mul_div_cancel_left _ ok.2.2.1]
end CF
