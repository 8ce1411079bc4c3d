/-! wheel: the class; and both where the numbers are not as told -/
abbrev cO (k m : Int32) : ce := (4, .inl [.ref 3, .ref 18, .ref 19, .int k, .ref 20, .ref 21, .ref 22, .int m])
section XW
variable {G : gx} {h : ah}
theorem C_rdrop {kd fm : Int32} (g17 : h 17 = cO kd fm) {d : Nat} : Ct G mX4_drop d 0 0 [.ref 17] h (fun r h2 => r = none ∧ h2 = va_up h 17 (cO (-1) fm)) :=
  Ct_of (by decide +kernel) (Nat.le_of_ble_eq_true rfl) (tX4_drop_0 g17 ⟨rfl, rfl⟩)
theorem X_wheel {f l u1 u2 u3 u4 a e s1 s2 c s3 kd fm : Int32} {pw ff : Nat → Int32} {k n : Nat} (ok : okW k n) (g2 : h 2 = cX f l) (g3 : h 3 = (6, .inl [.ref 4, .int u1, .int u2, .int u3, .int u4])) (g4 : h 4 = aI 15 pw) (g9 : h 9 = cR a e s1 s2 c s3) (g10 : h 10 = aI 14 ff) (g17 : h 17 = cO kd fm) : Ct G mX7_wheel 2 0 0 [.ref 2, .int (nI k), .int (nI n)] h (fun r h2 => r = some (.int (nI (k ^ n))) ∧ h2 2 = cX (-1) l ∧ h2 3 = cW k n ∧ (∃ p2, h2 4 = aI 15 p2 ∧ isP k n p2) ∧ h2 9 = cR 0 0 0 0 c 0 ∧ (∃ f2, h2 10 = aI 14 f2 ∧ isT f2) ∧ h2 17 = cO (-1) fm ∧ Fr [2, 3, 4, 9, 10, 17] h h2) := by
  have hl := ok.le (Nat.le_refl n)
  have hp := ok.pp n
  have hwv : hw (nI k) (nI n) = nI (k ^ n) := by
    rcases hw_cases (nI k) (nI n) with ⟨k2, n2, ok2, e1, e2, e3⟩ | ⟨-, q⟩
    · have a1 := (nI_eq (by have := ok.2.1; omega) (by have := ok2.2.1; omega)).mp e1
      have a2 := (nI_eq (by have := ok.2.2.2.1; omega) (by have := ok2.2.2.2.1; omega)).mp e2
      subst a1; subst a2
      exact e3
    · exact absurd ⟨rfl, rfl⟩ (q k n ok)
  refine Ct_of (by decide +kernel) (Nat.le_of_ble_eq_true rfl) (tX7_wheel_0 ?_)
  refine cX7_wheel_2 (C_howMany (d := 0) (nI k) (nI n)) ⟨by decide, by decide⟩ (by decide) ⟨Nat.le_refl _, Nat.le_refl _⟩ (fun r h1 e => ?_)
  obtain ⟨rfl, rfl⟩ := e
  rw [hwv]
  refine tX7_wheel_5 g2 (fun _ => ?_) (fun e => absurd e (nI_n0 hp hl))
  refine cX7_wheel_19 (k := 1) (C_become ok g3 g4 (d := 0)) g3 ⟨by decide, by decide⟩ (by decide) ⟨Nat.le_refl _, Nat.le_refl _⟩ (fun r h2 e => ?_)
  obtain ⟨rfl, b3, b4, bf⟩ := e
  refine tX7_wheel_22 ((bf 2 (by decide)).trans g2) ?_
  refine cX7_wheel_26 (k := 7) (C_turning ((bf 9 (by decide)).trans g9) ((bf 10 (by decide)).trans g10)) ((bf 9 (by decide)).trans g9) ⟨by decide, by decide⟩ (by decide) ⟨Nat.le_refl _, Nat.le_refl _⟩ (fun r h3 e => ?_)
  obtain ⟨rfl, t9, t10, tf⟩ := e
  have c17 : h3 17 = cO kd fm := (tf 17 (by decide)).trans ((bf 17 (by decide)).trans g17)
  have c2 : h3 2 = cX f l := (tf 2 (by decide)).trans ((bf 2 (by decide)).trans g2)
  refine tX7_wheel_29 c2 ?_
  refine cX7_wheel_33 (k := 15) (C_rdrop c17 (d := 0)) c17 ⟨by decide, by decide⟩ (by decide) ⟨Nat.le_refl _, Nat.le_refl _⟩ (fun r h4 e => ?_)
  obtain ⟨rfl, rfl⟩ := e
  refine tX7_wheel_36 c2 ⟨rfl, rfl, ?_, ?_, t9, t10, rfl, ?_⟩
  · exact (tf 3 (by decide)).trans b3
  · obtain ⟨p2, q1, q2⟩ := b4
    exact ⟨p2, (tf 4 (by decide)).trans q1, q2⟩
  · exact ((Fr.tr (Fr.mono bf (by decide)) tf (by decide)).up (by decide)).up (by decide)
theorem X_wheel_no {f l : Int32} (g2 : h 2 = cX f l) {x z : Int32} (hz : hw x z = 0) : Ct G mX7_wheel 2 0 0 [.ref 2, .int x, .int z] h (Rv (.int (-2)) h) := by
  refine Ct_of (by decide +kernel) (Nat.le_of_ble_eq_true rfl) (tX7_wheel_0 ?_)
  refine cX7_wheel_2 (C_howMany (d := 0) x z) ⟨by decide, by decide⟩ (by decide) ⟨Nat.le_refl _, Nat.le_refl _⟩ (fun r h1 e => ?_)
  obtain ⟨rfl, rfl⟩ := e
  exact tX7_wheel_5 g2 (fun e => absurd hz e) (fun _ => ⟨rfl, rfl⟩)
theorem M_wheel_no {k0 n0 a0 s0 mx mc mw ml mf mp mg : Int32} (g42 : h 42 = cM k0 n0 a0 s0 mx mc mw ml mf mp mg) {x z : Int32} (hz : ∀ k n, okW k n → ¬ (x = nI k ∧ z = nI n)) : Ct G mX8_wheel 2 0 0 [.ref 42, .int x, .int z] h (Rv (.int (-2)) h) := by
  refine Ct_of (by decide +kernel) (Nat.le_of_ble_eq_true rfl) (tX8_wheel_0 ?_)
  refine cX8_wheel_8 (C_in (d := 0) _ _ _) ⟨by decide, by decide⟩ (by decide) ⟨Nat.le_refl _, Nat.le_refl _⟩ (fun r h2 e => ?_)
  obtain ⟨rfl, rfl⟩ := e
  refine tX8_wheel_11 (fun e => ⟨rfl, rfl⟩) (fun e1 => ?_)
  refine cX8_wheel_20 (C_in (d := 0) _ _ _) ⟨by decide, by decide⟩ (by decide) ⟨Nat.le_refl _, Nat.le_refl _⟩ (fun r h3 e => ?_)
  obtain ⟨rfl, rfl⟩ := e
  refine tX8_wheel_23 (fun e2 => ?_) (fun e => ⟨rfl, rfl⟩)
  have i1 : ¬ (x < 2 ∨ 5 < x) := fun q => e1 ((z01 _).mpr (by
    rw [show (2 : Int64) = (2 : Int32).toInt64 by decide, show (5 : Int64) = (5 : Int32).toInt64 by decide, i64_r 2 5 x]
    exact q))
  have i2 : ¬ (z < 1 ∨ 14 < z) := fun q => e2 ((z01 _).mpr (by
    rw [show (1 : Int64) = (1 : Int32).toInt64 by decide, show (14 : Int64) = (14 : Int32).toInt64 by decide, i64_r 1 14 z]
    exact q))
  obtain ⟨k, hk, rfl⟩ := nI_of2 (M := 5) (n := 5) (by decide) (fun q => i1 (Or.inl (Int32.lt_trans q (by decide)))) (Int32.not_lt.mp (fun q => i1 (Or.inr q)))
  obtain ⟨n, hn, rfl⟩ := nI_of2 (M := 14) (n := 14) (by decide) (fun q => i2 (Or.inl (Int32.lt_trans q (by decide)))) (Int32.not_lt.mp (fun q => i2 (Or.inr q)))
  have hk2 : 2 ≤ k := by
    rcases Nat.lt_or_ge k 2 with q | q
    · exact absurd (Or.inl (nI_lt (b := 2) q (by decide))) i1
    · exact q
  have hn1 : 1 ≤ n := by
    rcases Nat.lt_or_ge n 1 with q | q
    · exact absurd (Or.inl (nI_lt (b := 1) q (by decide))) i2
    · exact q
  have hbig : 20000 < k ^ n := by
    rcases Nat.lt_or_ge 20000 (k ^ n) with q | q
    · exact q
    · exact absurd ⟨rfl, rfl⟩ (hz k n ⟨hk2, hk, hn1, hn, q⟩)
  have many : ∀ m i a, i + m = n → a ≤ 100000 → (a = k ^ i ∨ 20000 < a) → V G mX8_wheel (b0 2) 34 [some (.ref 42), some (.int (nI k)), some (.int (nI n)), some (.int (nI a)), some (.int (nI i))] [] h3 (Rv (.int (-2)) h3) := by
    intro m
    induction m with
    | zero =>
      intro i a hi ha hor
      have hin : i = n := by omega
      subst hin
      have h20 : ¬ nI a ≤ (20000 : Int32) := by
        have : 20000 < a := by rcases hor with q | q <;> omega
        exact nI_ge (a := 20000) this (by omega)
      exact tX8_wheel_34 g42 (fun _ e => absurd e h20) (fun _ _ => ⟨rfl, rfl⟩) (fun e => absurd (nI_le (Nat.le_refl _) (by omega)) e) (fun e => absurd (nI_le (Nat.le_refl _) (by omega)) e)
    | succ m ih =>
      intro i a hi ha hor
      refine tX8_wheel_34 g42 (fun e => absurd e (nI_ge (by omega) (by omega))) (fun e => absurd e (nI_ge (by omega) (by omega))) (fun _ e => ?_) (fun _ e => ?_)
      · have e3 : a ≤ 20000 := (nI_leI (b := 20000) (by omega) (by decide)).mp e
        rw [pk_mul, nI_1]
        refine ih (i + 1) (a * k) (by omega) (Nat.le_trans (Nat.mul_le_mul e3 hk) (by decide)) (Or.inl ?_)
        rcases hor with q | q
        · rw [q, Nat.pow_succ]
        · omega
      · have e3 : 20000 < a := by
          rcases Nat.lt_or_ge 20000 a with q | q
          · exact q
          · exact absurd (nI_le (b := 20000) q (by decide)) e
        rw [nI_1]
        exact ih (i + 1) a (by omega) ha (Or.inr e3)
  exact many n 0 1 (by omega) (by decide) (Or.inl rfl)
end XW
