/-! letter, place, way, found, part, count: both sides -/
def a_count (k n a e w l x : Int32) : Int32 := if x = 0 then k else if x = 1 then n else if x = 2 then a else if x = 3 then e else if x = 4 then w else if x = 5 then l else -2
def a_letter (kd a : Int32) (rl : Nat → Int32) (x : Int32) : Int32 := if kd = -1 then -2 else if x < 0 ∨ a ≤ x then -2 else rl x.toNatClampNeg
def a_place (kd a : Int32) (pl : Nat → Int32) (x : Int32) : Int32 := if x < 0 ∨ a ≤ x then -2 else if kd = -1 then -3 else pl x.toNatClampNeg
def a_way (kd a x z : Int32) : Int32 := if kd = -1 then -2 else if (x < 0 ∨ a ≤ x) ∨ (z < 0 ∨ a ≤ z) then -2 else if z < x then z - x + a else z - x
theorem cnt_pick (x : Int32) : (∃ j, j < 6 ∧ x = nI j) ∨ (x.toInt < 0 ∨ 5 < x.toInt) := by
  rcases pk_ix x (n := 6) (by decide) with h | h | h
  · refine Or.inr (Or.inl ?_)
    rw [Int32.lt_iff_toInt_lt] at h
    exact h
  · refine Or.inr (Or.inr ?_)
    rw [Int32.le_iff_toInt_le, nI_toInt (by decide)] at h
    omega
  · exact Or.inl h
theorem cnt_no {k n a e w l x : Int32} (h : x.toInt < 0 ∨ 5 < x.toInt) : a_count k n a e w l x = -2 := by
  have ne : ∀ j : Int32, 0 ≤ j.toInt → j.toInt ≤ 5 → x ≠ j := fun j h1 h2 q => by subst q; omega
  unfold a_count
  rw [if_neg (ne 0 (by decide) (by decide)), if_neg (ne 1 (by decide) (by decide)), if_neg (ne 2 (by decide) (by decide)), if_neg (ne 3 (by decide) (by decide)), if_neg (ne 4 (by decide) (by decide)), if_neg (ne 5 (by decide) (by decide))]
section SM
variable {G : gx} {h : ah} {f l : Int32} {k n : Nat} {ms mx mc mw ml mf mp mg : Int32}
theorem X_found (g2 : h 2 = cX f l) {d : Nat} : Ct G mX7_found d 0 0 [.ref 2] h (Rv (.int f) h) :=
  Ct_of (by decide +kernel) (Nat.le_of_ble_eq_true rfl) (tX7_found_0 g2 ⟨rfl, rfl⟩)
theorem M_found {k n a : Int32} (g42 : h 42 = cM k n a ms mx mc mw ml mf mp mg) {d : Nat} : Ct G mX8_found d 0 0 [.ref 42] h (Rv (.int mf) h) :=
  Ct_of (by decide +kernel) (Nat.le_of_ble_eq_true rfl) (tX8_found_0 g42 ⟨rfl, rfl⟩)
theorem X_count {a e s1 s2 c s3 kd fm : Int32} (g2 : h 2 = cX f l) (g3 : h 3 = cW k n) (g9 : h 9 = cR a e s1 s2 c s3) (g17 : h 17 = cO kd fm) (x : Int32) {d : Nat} : Ct G mX7_count d 0 0 [.ref 2, .int x] h (Rv (.int (a_count (nI k) (nI n) (nI (k ^ n)) e kd l x)) h) := by
  refine Ct_of (by decide +kernel) (Nat.le_of_ble_eq_true rfl) (tX7_count_0 ?_)
  rcases cnt_pick x with ⟨j, hj, rfl⟩ | hx
  · match j, hj with
    | 0, _ => exact V_tabIn (off := 39) (t := 40) dX7_count_1 (by decide) (by decide) (by decide +kernel) (by decide) (tX7_count_40 g2 g3 ⟨rfl, rfl⟩)
    | 1, _ => exact V_tabIn (off := 47) (t := 48) dX7_count_1 (by decide) (by decide) (by decide +kernel) (by decide) (tX7_count_48 g2 g3 ⟨rfl, rfl⟩)
    | 2, _ => exact V_tabIn (off := 55) (t := 56) dX7_count_1 (by decide) (by decide) (by decide +kernel) (by decide) (tX7_count_56 g2 g3 ⟨rfl, rfl⟩)
    | 3, _ => exact V_tabIn (off := 63) (t := 64) dX7_count_1 (by decide) (by decide) (by decide +kernel) (by decide) (tX7_count_64 g2 g9 ⟨rfl, rfl⟩)
    | 4, _ => exact V_tabIn (off := 71) (t := 72) dX7_count_1 (by decide) (by decide) (by decide +kernel) (by decide) (tX7_count_72 g2 g17 ⟨rfl, rfl⟩)
    | 5, _ => exact V_tabIn (off := 79) (t := 80) dX7_count_1 (by decide) (by decide) (by decide +kernel) (by decide) (tX7_count_80 g2 ⟨rfl, rfl⟩)
    | j + 6, q => omega
  · exact V_tabOut (t := 85) dX7_count_1 hx (by decide) (tX7_count_85 ⟨by rw [cnt_no hx], rfl⟩)
theorem M_count {k n a : Int32} (g42 : h 42 = cM k n a ms mx mc mw ml mf mp mg) (x : Int32) {d : Nat} : Ct G mX8_count d 0 0 [.ref 42, .int x] h (Rv (.int (a_count k n a mx mw ml x)) h) := by
  refine Ct_of (by decide +kernel) (Nat.le_of_ble_eq_true rfl) (tX8_count_0 ?_)
  rcases cnt_pick x with ⟨j, hj, rfl⟩ | hx
  · match j, hj with
    | 0, _ => exact V_tabIn (off := 39) (t := 40) dX8_count_1 (by decide) (by decide) (by decide +kernel) (by decide) (tX8_count_40 g42 ⟨rfl, rfl⟩)
    | 1, _ => exact V_tabIn (off := 44) (t := 45) dX8_count_1 (by decide) (by decide) (by decide +kernel) (by decide) (tX8_count_45 g42 ⟨rfl, rfl⟩)
    | 2, _ => exact V_tabIn (off := 49) (t := 50) dX8_count_1 (by decide) (by decide) (by decide +kernel) (by decide) (tX8_count_50 g42 ⟨rfl, rfl⟩)
    | 3, _ => exact V_tabIn (off := 54) (t := 55) dX8_count_1 (by decide) (by decide) (by decide +kernel) (by decide) (tX8_count_55 g42 ⟨rfl, rfl⟩)
    | 4, _ => exact V_tabIn (off := 59) (t := 60) dX8_count_1 (by decide) (by decide) (by decide +kernel) (by decide) (tX8_count_60 g42 ⟨rfl, rfl⟩)
    | 5, _ => exact V_tabIn (off := 64) (t := 65) dX8_count_1 (by decide) (by decide) (by decide +kernel) (by decide) (tX8_count_65 g42 ⟨rfl, rfl⟩)
    | j + 6, q => omega
  · exact V_tabOut (t := 70) dX8_count_1 hx (by decide) (tX8_count_70 ⟨by rw [cnt_no hx], rfl⟩)
theorem C_isThere {kd fm : Int32} (g17 : h 17 = cO kd fm) {d : Nat} : Ct G mX4_isThere d 0 0 [.ref 17] h (Rv (.int (if kd = -1 then 0 else 1)) h) :=
  Ct_of (by decide +kernel) (Nat.le_of_ble_eq_true rfl) (tX4_isThere_0 g17 (fun e => ⟨by rw [if_pos e], rfl⟩) (fun e => ⟨by rw [if_neg e], rfl⟩))
theorem C_isPlace {kd fm : Int32} (g3 : h 3 = cW k n) (g17 : h 17 = cO kd fm) (x : Int32) : Ct G mX4_isPlace 1 0 0 [.ref 17, .int x] h (Rv (.int (if kd = -1 ∨ (x < 0 ∨ nI (k ^ n) ≤ x) then 0 else 1)) h) := by
  refine Ct_of (by decide +kernel) (Nat.le_of_ble_eq_true rfl) (tX4_isPlace_0 ?_)
  refine cX4_isPlace_1 (C_isThere g17 (d := 0)) g17 ⟨by decide, by decide⟩ (by decide) ⟨Nat.le_refl _, Nat.le_refl _⟩ (fun r h1 e => ?_)
  obtain ⟨rfl, rfl⟩ := e
  refine tX4_isPlace_4 g17 (fun e => ⟨by rw [if_pos (Or.inl ((z01 _).mp e))], rfl⟩) (fun e1 => ?_)
  refine cX4_isPlace_12 (C_has g3 x (d := 0)) g3 ⟨by decide, by decide⟩ (by decide) ⟨Nat.le_refl _, Nat.le_refl _⟩ (fun r h2 e => ?_)
  obtain ⟨rfl, rfl⟩ := e
  refine tX4_isPlace_15 (fun e => ⟨by rw [if_pos (Or.inr ((z01 _).mp e))], rfl⟩) (fun e => ⟨?_, rfl⟩)
  rw [if_neg (fun q => q.elim (fun q => e1 ((z01 _).mpr q)) (fun q => e ((z01 _).mpr q)))]
theorem X_letter {kd fm : Int32} {rl : Nat → Int32} (ok : okW k n) (g2 : h 2 = cX f l) (g3 : h 3 = cW k n) (g17 : h 17 = cO kd fm) (g18 : h 18 = aB 20000 rl) (x : Int32) : Ct G mX7_letter 2 0 0 [.ref 2, .int x] h (Rv (.int (a_letter kd (nI (k ^ n)) rl x)) h) := by
  have hl := ok.le (Nat.le_refl n)
  refine Ct_of (by decide +kernel) (Nat.le_of_ble_eq_true rfl) (tX7_letter_0 g2 ?_)
  refine cX7_letter_5 (C_isPlace g3 g17 x) g17 ⟨by decide, by decide⟩ (by decide) ⟨Nat.le_refl _, Nat.le_refl _⟩ (fun r h1 e => ?_)
  obtain ⟨rfl, rfl⟩ := e
  refine tX7_letter_8 g2 g17 g18 (fun e => ⟨?_, rfl⟩) (fun e => ?_) (fun e => ⟨?_, rfl⟩)
  · rcases (z01 _).mp e with q | q
    · rw [a_letter, if_pos q]
    · rw [a_letter]
      by_cases hk : kd = -1
      · rw [if_pos hk]
      · rw [if_neg hk, if_pos q]
  · obtain ⟨w, hw, rfl⟩ := wd_pick ok (fun q => e ((z01 _).mpr (Or.inr q)))
    exact vp_in_nI (by omega) (by decide)
  · rw [a_letter, if_neg (fun q => e ((z01 _).mpr (Or.inl q))), if_neg (fun q => e ((z01 _).mpr (Or.inr q)))]
theorem M_letter {rl : Nat → Int32} (ok : okW k n) (g42 : h 42 = cM (nI k) (nI n) (nI (k ^ n)) ms mx mc mw ml mf mp mg) (g53 : h 53 = aI 20000 rl) (x : Int32) : Ct G mX8_letter 1 0 0 [.ref 42, .int x] h (Rv (.int (a_letter mw (nI (k ^ n)) rl x)) h) := by
  have hl := ok.le (Nat.le_refl n)
  have hi := in_w (ok.pp n) hl x
  refine Ct_of (by decide +kernel) (Nat.le_of_ble_eq_true rfl) (tX8_letter_0 g42 (fun e => ⟨by rw [a_letter, if_pos e], rfl⟩) (fun e1 => ?_))
  refine cX8_letter_18 (C_in (d := 0) _ _ _) ⟨by decide, by decide⟩ (by decide) ⟨Nat.le_refl _, Nat.le_refl _⟩ (fun r h1 e => ?_)
  obtain ⟨rfl, rfl⟩ := e
  refine tX8_letter_21 g42 g53 (fun e => ⟨by rw [a_letter, if_neg e1, if_pos (hi.mp ((z01 _).mp e))], rfl⟩) (fun e => ?_) (fun e => ⟨by rw [a_letter, if_neg e1, if_neg (fun q => e ((z01 _).mpr (hi.mpr q)))], rfl⟩)
  obtain ⟨w, hw, rfl⟩ := wd_pick ok (fun q => e ((z01 _).mpr (hi.mpr q)))
  exact vp_in_nI (by omega) (by decide)
theorem X_place {kd fm : Int32} {pl : Nat → Int32} (ok : okW k n) (g2 : h 2 = cX f l) (g3 : h 3 = cW k n) (g17 : h 17 = cO kd fm) (g19 : h 19 = aI 20000 pl) (x : Int32) : Ct G mX7_place 1 0 0 [.ref 2, .int x] h (Rv (.int (a_place kd (nI (k ^ n)) pl x)) h) := by
  have hl := ok.le (Nat.le_refl n)
  refine Ct_of (by decide +kernel) (Nat.le_of_ble_eq_true rfl) (tX7_place_0 g2 ?_)
  refine cX7_place_5 (C_has g3 x (d := 0)) g3 ⟨by decide, by decide⟩ (by decide) ⟨Nat.le_refl _, Nat.le_refl _⟩ (fun r h1 e => ?_)
  obtain ⟨rfl, rfl⟩ := e
  refine tX7_place_8 g2 (fun e1 => ?_) (fun e => ⟨by rw [a_place, if_pos ((z01 _).mp e)], rfl⟩)
  have hx : ¬ (x < 0 ∨ nI (k ^ n) ≤ x) := fun q => e1 ((z01 _).mpr q)
  refine cX7_place_18 (C_isThere g17 (d := 0)) g17 ⟨by decide, by decide⟩ (by decide) ⟨Nat.le_refl _, Nat.le_refl _⟩ (fun r h2 e => ?_)
  obtain ⟨rfl, rfl⟩ := e
  refine tX7_place_21 g2 g17 g19 (fun e => ⟨by rw [a_place, if_neg hx, if_pos ((z01 _).mp e)], rfl⟩) (fun e => ?_) (fun e => ⟨by rw [a_place, if_neg hx, if_neg (fun q => e ((z01 _).mpr q))], rfl⟩)
  obtain ⟨w, hw, rfl⟩ := wd_pick ok hx
  exact vp_in_nI (by omega) (by decide)
theorem M_place {pl : Nat → Int32} (ok : okW k n) (g42 : h 42 = cM (nI k) (nI n) (nI (k ^ n)) ms mx mc mw ml mf mp mg) (g54 : h 54 = aI 20000 pl) (x : Int32) : Ct G mX8_place 2 0 0 [.ref 42, .int x] h (Rv (.int (a_place mw (nI (k ^ n)) pl x)) h) := by
  have hl := ok.le (Nat.le_refl n)
  refine Ct_of (by decide +kernel) (Nat.le_of_ble_eq_true rfl) (tX8_place_0 ?_)
  refine cX8_place_2 (C_isWord ok g42 x) g42 ⟨by decide, by decide⟩ (by decide) ⟨Nat.le_refl _, Nat.le_refl _⟩ (fun r h1 e => ?_)
  obtain ⟨rfl, rfl⟩ := e
  refine tX8_place_5 g42 g54 (fun e1 _ => ?_) (fun e1 e2 => ⟨by rw [a_place, if_neg (fun q => e1 ((z01 _).mpr q)), if_neg e2], rfl⟩) (fun e1 e2 => ⟨by rw [a_place, if_neg (fun q => e1 ((z01 _).mpr q)), if_pos e2], rfl⟩) (fun e => ⟨by rw [a_place, if_pos ((z01 _).mp e)], rfl⟩)
  obtain ⟨w, hw, rfl⟩ := wd_pick ok (fun q => e1 ((z01 _).mpr q))
  exact vp_in_nI (by omega) (by decide)
theorem X_way {kd fm : Int32} (g2 : h 2 = cX f l) (g3 : h 3 = cW k n) (g17 : h 17 = cO kd fm) (x z : Int32) : Ct G mX7_way 2 0 0 [.ref 2, .int x, .int z] h (Rv (.int (a_way kd (nI (k ^ n)) x z)) h) := by
  have no : ∀ q, (kd = -1 ∨ (q < 0 ∨ nI (k ^ n) ≤ q)) → (q = x ∨ q = z) → a_way kd (nI (k ^ n)) x z = -2 := fun q h1 h2 => by
    rw [a_way]
    by_cases hk : kd = -1
    · rw [if_pos hk]
    · rw [if_neg hk]
      have h3 := h1.resolve_left hk
      rw [if_pos]
      rcases h2 with rfl | rfl
      · exact Or.inl h3
      · exact Or.inr h3
  refine Ct_of (by decide +kernel) (Nat.le_of_ble_eq_true rfl) (tX7_way_0 g2 ?_)
  refine cX7_way_5 (C_isPlace g3 g17 x) g17 ⟨by decide, by decide⟩ (by decide) ⟨Nat.le_refl _, Nat.le_refl _⟩ (fun r h1 e => ?_)
  obtain ⟨rfl, rfl⟩ := e
  refine tX7_way_8 g2 (fun e => ⟨by rw [no x ((z01 _).mp e) (Or.inl rfl)], rfl⟩) (fun e1 => ?_)
  refine cX7_way_16 (C_isPlace g3 g17 z) g17 ⟨by decide, by decide⟩ (by decide) ⟨Nat.le_refl _, Nat.le_refl _⟩ (fun r h2 e => ?_)
  obtain ⟨rfl, rfl⟩ := e
  have yes : ¬ (if kd = -1 ∨ (z < 0 ∨ nI (k ^ n) ≤ z) then (0 : Int32) else 1) = 0 → a_way kd (nI (k ^ n)) x z = if z < x then z - x + nI (k ^ n) else z - x := fun e2 => by
    rw [a_way, if_neg (fun q => e1 ((z01 _).mpr (Or.inl q))), if_neg]
    rintro (q | q)
    · exact e1 ((z01 _).mpr (Or.inr q))
    · exact e2 ((z01 _).mpr (Or.inr q))
  exact tX7_way_19 g2 g3 (fun e2 e3 => ⟨by rw [yes e2, if_pos e3], rfl⟩) (fun e2 e3 => ⟨by rw [yes e2, if_neg e3], rfl⟩) (fun e => ⟨by rw [no z ((z01 _).mp e) (Or.inr rfl)], rfl⟩)
theorem M_way (ok : okW k n) (g42 : h 42 = cM (nI k) (nI n) (nI (k ^ n)) ms mx mc mw ml mf mp mg) (x z : Int32) : Ct G mX8_way 1 0 0 [.ref 42, .int x, .int z] h (Rv (.int (a_way mw (nI (k ^ n)) x z)) h) := by
  have hl := ok.le (Nat.le_refl n)
  have hi := in_w (ok.pp n) hl x
  have hj := in_w (ok.pp n) hl z
  refine Ct_of (by decide +kernel) (Nat.le_of_ble_eq_true rfl) (tX8_way_0 g42 (fun e => ⟨by rw [a_way, if_pos e], rfl⟩) (fun e0 => ?_))
  refine cX8_way_18 (C_in (d := 0) _ _ _) ⟨by decide, by decide⟩ (by decide) ⟨Nat.le_refl _, Nat.le_refl _⟩ (fun r h1 e => ?_)
  obtain ⟨rfl, rfl⟩ := e
  refine tX8_way_21 g42 (fun e => ⟨by rw [a_way, if_neg e0, if_pos (Or.inl (hi.mp ((z01 _).mp e)))], rfl⟩) (fun e1 => ?_)
  refine cX8_way_34 (C_in (d := 0) _ _ _) ⟨by decide, by decide⟩ (by decide) ⟨Nat.le_refl _, Nat.le_refl _⟩ (fun r h2 e => ?_)
  obtain ⟨rfl, rfl⟩ := e
  have yes : ¬ (if z.toInt64 < (0 : Int64) ∨ (nI (k ^ n) - 1).toInt64 < z.toInt64 then (0 : Int32) else 1) = 0 → a_way mw (nI (k ^ n)) x z = if z < x then z - x + nI (k ^ n) else z - x := fun e2 => by
    rw [a_way, if_neg e0, if_neg]
    rintro (q | q)
    · exact e1 ((z01 _).mpr (hi.mpr q))
    · exact e2 ((z01 _).mpr (hj.mpr q))
  exact tX8_way_37 g42 (fun e2 e3 => ⟨by rw [yes e2, if_pos e3], rfl⟩) (fun e2 e3 => ⟨by rw [yes e2, if_neg e3], rfl⟩) (fun e => ⟨by rw [a_way, if_neg e0, if_pos (Or.inr (hj.mp ((z01 _).mp e)))], rfl⟩)
end SM
