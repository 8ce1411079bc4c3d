/-! get, put: both sides -/
theorem fo_0 {fm z x : Int32} {L : Nat} (hL : L ≤ 200) (hf : fo fm (nI L) z x = 0) : fm ≠ -1 ∧ fm = z ∧ ∃ j, j < L ∧ x = nI j := by
  unfold fo at hf
  by_cases h1 : fm = -1
  · rw [if_pos h1] at hf; exact absurd hf (by decide)
  · rw [if_neg h1] at hf
    by_cases h2 : fm ≠ z
    · rw [if_pos h2] at hf; exact absurd hf (by decide)
    · rw [if_neg h2] at hf
      by_cases h3 : x < 0 ∨ nI L - 1 < x
      · rw [if_pos h3] at hf; exact absurd hf (by decide)
      · refine ⟨h1, Decidable.not_not.mp h2, ?_⟩
        rcases pk_ix x (n := L) (by omega) with q | q | q
        · exact absurd (Or.inl q) h3
        · refine absurd (Or.inr ?_) h3
          have e1 : (nI L - nI 1).toInt = (L : Int) - 1 := pk_sub_toInt (by omega) (by decide)
          have e2 : (nI L - (1 : Int32)).toInt = (L : Int) - 1 := e1
          rw [Int32.le_iff_toInt_le, nI_toInt (by omega)] at q
          rw [Int32.lt_iff_toInt_lt, e2]
          omega
        · exact q
abbrev mI : Int32 := -2147483648
section XG
variable {G : gx} {h : ah} {f l : Int32} {tp : Nat → Option Nat}
theorem X_get_no (g2 : h 2 = cX f l) (g23 : h 23 = (4, .inr (4, .inr (.inr tp)))) {x y z : Int32} (hb : (x < 0 ∨ 4 ≤ x) ∨ (y < 0 ∨ 2 < y)) : Ct G mX7_get 2 0 0 [.ref 2, .int x, .int y, .int z] h (Rv (.int mI) h) := by
  refine Ct_of (by decide +kernel) (Nat.le_of_ble_eq_true rfl) (tX7_get_0 ?_)
  refine cX7_get_1 (C_isTape (d := 0) x) ⟨by decide, by decide⟩ (by decide) ⟨Nat.le_refl _, Nat.le_refl _⟩ (fun r h1 e => ?_)
  obtain ⟨rfl, rfl⟩ := e
  refine tX7_get_4 (fun _ => ⟨rfl, rfl⟩) (fun e1 => ?_)
  refine cX7_get_8 (C_isForm (d := 0) y) ⟨by decide, by decide⟩ (by decide) ⟨Nat.le_refl _, Nat.le_refl _⟩ (fun r h2 e => ?_)
  obtain ⟨rfl, rfl⟩ := e
  have key : ¬ (if y < 0 ∨ 2 < y then (0 : Int32) else 1) = 0 → False := fun e2 => by
    rcases hb with q | q
    · exact e1 ((z01 _).mpr q)
    · exact e2 ((z01 _).mpr q)
  exact tX7_get_11 (ta := 0) g2 g23 (fun a => (key a).elim) (fun a => (key a).elim) (fun a => (key a).elim) (fun _ => ⟨rfl, rfl⟩)
theorem X_get {t L : Nat} {fm y x : Int32} {it : Nat → Int32} (g2 : h 2 = cX f l) (g23 : h 23 = (4, .inr (4, .inr (.inr tp)))) (htp : isTp tp) (ht : t < 4) (hL : L ≤ 200) (gt : h (3 * t + 22 + 2) = cTt t fm (nI L)) (gi : h (3 * t + 23 + 2) = aI 200 it) (hy : ¬ (y < 0 ∨ 2 < y)) : Ct G mX7_get 2 0 0 [.ref 2, .int (nI t), .int y, .int x] h (fun r h2 => if fo fm (nI L) y x = 0 then r = some (.int (it x.toNatClampNeg)) ∧ h2 = h else r = some (.int mI) ∧ h2 = va_up h 2 (cX f (fo fm (nI L) y x))) := by
  refine Ct_of (by decide +kernel) (Nat.le_of_ble_eq_true rfl) (tX7_get_0 ?_)
  refine cX7_get_1 (C_isTape (d := 0) _) ⟨by decide, by decide⟩ (by decide) ⟨Nat.le_refl _, Nat.le_refl _⟩ (fun r h1 e => ?_)
  obtain ⟨rfl, rfl⟩ := e
  refine tX7_get_4 (fun e => absurd ((z01 _).mp e) (t4_no ht)) (fun e1 => ?_)
  refine cX7_get_8 (C_isForm (d := 0) y) ⟨by decide, by decide⟩ (by decide) ⟨Nat.le_refl _, Nat.le_refl _⟩ (fun r h2 e => ?_)
  obtain ⟨rfl, rfl⟩ := e
  refine tX7_get_11 (ta := 3 * t + 22) g2 g23 (fun _ => vp_in_nI ht (by decide)) (fun _ => by rw [nI_clamp (by omega)]; exact htp t ht) (fun _ => ?_) (fun e => absurd ((z01 _).mp e) hy)
  refine cX7_get_25 (C_fault gt y x) ⟨by decide, by decide⟩ (by decide) ⟨Nat.le_refl _, Nat.le_refl _⟩ (fun r h3 e => ?_)
  obtain ⟨rfl, rfl⟩ := e
  refine tX7_get_28 (ta := 3 * t + 22) g2 g23 gt gi (fun _ => vp_in_nI ht (by decide)) (fun _ => by rw [nI_clamp (by omega)]; exact htp t ht) (fun e => ?_) (fun e => ?_) (fun e => ?_)
  · obtain ⟨-, -, j, hj, rfl⟩ := fo_0 hL e
    exact vp_in_nI (by omega) (by decide)
  · rw [if_pos e]
    exact ⟨rfl, rfl⟩
  · rw [if_neg e]
    exact ⟨rfl, rfl⟩
theorem X_put_no (g2 : h 2 = cX f l) (g23 : h 23 = (4, .inr (4, .inr (.inr tp)))) {x y z v : Int32} (hb : (x < 0 ∨ 4 ≤ x) ∨ (y < 0 ∨ 2 < y)) : Ct G mX7_put 2 0 0 [.ref 2, .int x, .int y, .int z, .int v] h (Rv (.int (-2)) h) := by
  refine Ct_of (by decide +kernel) (Nat.le_of_ble_eq_true rfl) (tX7_put_0 ?_)
  refine cX7_put_1 (C_isTape (d := 0) x) ⟨by decide, by decide⟩ (by decide) ⟨Nat.le_refl _, Nat.le_refl _⟩ (fun r h1 e => ?_)
  obtain ⟨rfl, rfl⟩ := e
  refine tX7_put_4 (fun _ => ⟨rfl, rfl⟩) (fun e1 => ?_)
  refine cX7_put_8 (C_isForm (d := 0) y) ⟨by decide, by decide⟩ (by decide) ⟨Nat.le_refl _, Nat.le_refl _⟩ (fun r h2 e => ?_)
  obtain ⟨rfl, rfl⟩ := e
  have key : ¬ (if y < 0 ∨ 2 < y then (0 : Int32) else 1) = 0 → False := fun e2 => by
    rcases hb with q | q
    · exact e1 ((z01 _).mpr q)
    · exact e2 ((z01 _).mpr q)
  exact tX7_put_11 (ta := 0) g2 g23 (fun a => (key a).elim) (fun a => (key a).elim) (fun a => (key a).elim) (fun _ => ⟨rfl, rfl⟩)
theorem X_put {t L : Nat} {fm y x v : Int32} {it : Nat → Int32} (g2 : h 2 = cX f l) (g23 : h 23 = (4, .inr (4, .inr (.inr tp)))) (htp : isTp tp) (ht : t < 4) (hL : L ≤ 200) (gt : h (3 * t + 22 + 2) = cTt t fm (nI L)) (gi : h (3 * t + 23 + 2) = aI 200 it) (hy : ¬ (y < 0 ∨ 2 < y)) : Ct G mX7_put 2 0 0 [.ref 2, .int (nI t), .int y, .int x, .int v] h (fun r h2 => if fo fm (nI L) y x = 0 then r = some (.int 1) ∧ h2 = va_up h (3 * t + 23 + 2) (aI 200 (upd it x.toNatClampNeg (ft fm v))) else r = some (.int (-10 - fo fm (nI L) y x)) ∧ h2 = va_up h 2 (cX f (fo fm (nI L) y x))) := by
  refine Ct_of (by decide +kernel) (Nat.le_of_ble_eq_true rfl) (tX7_put_0 ?_)
  refine cX7_put_1 (C_isTape (d := 0) _) ⟨by decide, by decide⟩ (by decide) ⟨Nat.le_refl _, Nat.le_refl _⟩ (fun r h1 e => ?_)
  obtain ⟨rfl, rfl⟩ := e
  refine tX7_put_4 (fun e => absurd ((z01 _).mp e) (t4_no ht)) (fun e1 => ?_)
  refine cX7_put_8 (C_isForm (d := 0) y) ⟨by decide, by decide⟩ (by decide) ⟨Nat.le_refl _, Nat.le_refl _⟩ (fun r h2 e => ?_)
  obtain ⟨rfl, rfl⟩ := e
  refine tX7_put_11 (ta := 3 * t + 22) g2 g23 (fun _ => vp_in_nI ht (by decide)) (fun _ => by rw [nI_clamp (by omega)]; exact htp t ht) (fun _ => ?_) (fun e => absurd ((z01 _).mp e) hy)
  refine cX7_put_25 (C_fault gt y x) ⟨by decide, by decide⟩ (by decide) ⟨Nat.le_refl _, Nat.le_refl _⟩ (fun r h3 e => ?_)
  obtain ⟨rfl, rfl⟩ := e
  refine tX7_put_28 (ta := 3 * t + 22) g2 g23 gt (fun _ => vp_in_nI ht (by decide)) (fun _ => by rw [nI_clamp (by omega)]; exact htp t ht) (fun _ => vp_in_nI ht (by decide)) (fun _ => by rw [nI_clamp (by omega)]; exact htp t ht) (fun e => ?_) (fun e => ?_)
  · refine cX7_put_60 (k := 3 * t + 22) (C_fitted gt v (d := 0)) gt ⟨by decide, by decide⟩ (Nat.le_of_ble_eq_true rfl) ⟨Nat.le_refl _, Nat.le_refl _⟩ (fun r h4 e4 => ?_)
    obtain ⟨rfl, rfl⟩ := e4
    obtain ⟨-, -, j, hj, ej⟩ := fo_0 hL e
    refine tX7_put_63 gi (by rw [ej]; exact vp_in_nI (by omega) (by decide)) ?_
    rw [if_pos e]
    exact ⟨rfl, rfl⟩
  · refine cX7_put_38 (k := 0) (C_finding g2 _ (d := 0)) g2 ⟨by decide, by decide⟩ (by decide) ⟨Nat.le_refl _, Nat.le_refl _⟩ (fun r h4 e4 => ?_)
    obtain ⟨rfl, rfl⟩ := e4
    refine tX7_put_41 ?_
    rw [if_neg e]
    exact ⟨rfl, rfl⟩
end XG
section MG
variable {G : gx} {h : ah} {k n a s mx mc mw ml mf mp mg : Int32} {fs sz it : Nat → Int32}
theorem M_lacks {t L : Nat} {y x : Int32} (g42 : h 42 = cM k n a s mx mc mw ml mf mp mg) (g55 : h 55 = aI 4 fs) (g56 : h 56 = aI 4 sz) (ht : t < 4) (hneg : 0 ≤ fs t ↔ ¬ fs t = -1) (hsz : sz t = nI L) : Ct G mX8_lacks 1 0 0 [.ref 42, .int (nI t), .int y, .int x] h (fun r h2 => if fo (fs t) (nI L) y x = 0 then r = some (.int 0) ∧ h2 = h else r = some (.int (-10 - fo (fs t) (nI L) y x)) ∧ h2 = va_up h 42 (cM k n a s mx mc mw (fo (fs t) (nI L) y x) mf mp mg)) := by
  have hc : (nI t).toNatClampNeg = t := nI_clamp (by omega)
  refine Ct_of (by decide +kernel) (Nat.le_of_ble_eq_true rfl) (tX8_lacks_0 g42 g55 g56 (vp_in_nI ht (by decide)) (fun _ => vp_in_nI ht (by decide)) (fun _ _ => vp_in_nI ht (by decide)) (fun e1 e2 => ?_) (fun e1 e2 => ?_) (fun e1 => ?_))
  · rw [hc] at e1 e2
    have f1 := hneg.mp e1
    rw [hc, hsz]
    refine cX8_lacks_43 (C_in (d := 0) _ _ _) ⟨by decide, by decide⟩ (by decide) ⟨Nat.le_refl _, Nat.le_refl _⟩ (fun r h3 e => ?_)
    obtain ⟨rfl, rfl⟩ := e
    have hi : (x.toInt64 < (0 : Int64) ∨ (nI L - 1).toInt64 < x.toInt64) ↔ (x < 0 ∨ nI L - 1 < x) := by
      rw [show (0 : Int64) = (0 : Int32).toInt64 by decide, i64_r]
    refine tX8_lacks_46 (fun e => ?_) (fun e => ?_)
    · have hf : fo (fs t) (nI L) y x = 2 := by rw [fo, if_neg f1, if_neg (fun q => q e2), if_pos (hi.mp ((z01 _).mp e))]
      refine cX8_lacks_55 (k := 40) (M_met g42 2 (d := 0)) g42 ⟨by decide, by decide⟩ (by decide) ⟨Nat.le_refl _, Nat.le_refl _⟩ (fun r h4 e4 => ?_)
      obtain ⟨rfl, rfl⟩ := e4
      refine tX8_lacks_58 ?_
      rw [hf, if_neg (by decide)]
      exact ⟨rfl, rfl⟩
    · have hf : fo (fs t) (nI L) y x = 0 := by rw [fo, if_neg f1, if_neg (fun q => q e2), if_neg (fun q => e ((z01 _).mpr (hi.mpr q)))]
      rw [hf, if_pos rfl]
      exact ⟨rfl, rfl⟩
  · rw [hc] at e1 e2
    have f1 := hneg.mp e1
    have hf : fo (fs t) (nI L) y x = 3 := by rw [fo, if_neg f1, if_pos e2]
    refine cX8_lacks_27 (k := 40) (M_met g42 3 (d := 0)) g42 ⟨by decide, by decide⟩ (by decide) ⟨Nat.le_refl _, Nat.le_refl _⟩ (fun r h4 e4 => ?_)
    obtain ⟨rfl, rfl⟩ := e4
    refine tX8_lacks_30 ?_
    rw [hf, if_neg (by decide)]
    exact ⟨rfl, rfl⟩
  · rw [hc] at e1
    have f1 : fs t = -1 := Decidable.not_not.mp (fun q => e1 (hneg.mpr q))
    have hf : fo (fs t) (nI L) y x = 1 := by rw [fo, if_pos f1]
    refine cX8_lacks_11 (k := 40) (M_met g42 1 (d := 0)) g42 ⟨by decide, by decide⟩ (by decide) ⟨Nat.le_refl _, Nat.le_refl _⟩ (fun r h4 e4 => ?_)
    obtain ⟨rfl, rfl⟩ := e4
    refine tX8_lacks_14 ?_
    rw [hf, if_neg (by decide)]
    exact ⟨rfl, rfl⟩
theorem f64_2 (y : Int32) : (y.toInt64 < (0 : Int64) ∨ (2 : Int64) < y.toInt64) ↔ (y < 0 ∨ 2 < y) := by
  rw [show (0 : Int64) = (0 : Int32).toInt64 by decide, show (2 : Int64) = (2 : Int32).toInt64 by decide, i64_r]
theorem ix_200 {t j : Nat} : ((200 : Int32) * nI t) + nI j = nI (200 * t + j) := by
  rw [show (200 : Int32) = nI 200 from rfl, pk_mul, nI_add]
theorem M_get_no (g42 : h 42 = cM k n a s mx mc mw ml mf mp mg) {x y z : Int32} (hb : (x < 0 ∨ 4 ≤ x) ∨ (y < 0 ∨ 2 < y)) : Ct G mX8_get 2 0 0 [.ref 42, .int x, .int y, .int z] h (Rv (.int mI) h) := by
  refine Ct_of (by decide +kernel) (Nat.le_of_ble_eq_true rfl) (tX8_get_0 ?_)
  refine cX8_get_1 (M_isTape x) ⟨by decide, by decide⟩ (by decide) ⟨Nat.le_refl _, Nat.le_refl _⟩ (fun r h1 e => ?_)
  obtain ⟨rfl, rfl⟩ := e
  refine tX8_get_4 (fun _ => ⟨rfl, rfl⟩) (fun e1 => ?_)
  refine cX8_get_13 (C_in (d := 0) _ _ _) ⟨by decide, by decide⟩ (by decide) ⟨Nat.le_refl _, Nat.le_refl _⟩ (fun r h2 e => ?_)
  obtain ⟨rfl, rfl⟩ := e
  refine tX8_get_16 (fun _ => ⟨rfl, rfl⟩) (fun e2 => ?_)
  rcases hb with q | q
  · exact absurd ((z01 _).mpr q) e1
  · exact absurd ((z01 _).mpr ((f64_2 y).mpr q)) e2
theorem M_get {t L : Nat} {y x : Int32} (g42 : h 42 = cM k n a s mx mc mw ml mf mp mg) (g55 : h 55 = aI 4 fs) (g56 : h 56 = aI 4 sz) (g57 : h 57 = aI 800 it) (ht : t < 4) (hL : L ≤ 200) (hneg : 0 ≤ fs t ↔ ¬ fs t = -1) (hsz : sz t = nI L) (hy : ¬ (y < 0 ∨ 2 < y)) : Ct G mX8_get 2 0 0 [.ref 42, .int (nI t), .int y, .int x] h (fun r h2 => if fo (fs t) (nI L) y x = 0 then r = some (.int (it (200 * t + x.toNatClampNeg))) ∧ h2 = h else r = some (.int mI) ∧ h2 = va_up h 42 (cM k n a s mx mc mw (fo (fs t) (nI L) y x) mf mp mg)) := by
  refine Ct_of (by decide +kernel) (Nat.le_of_ble_eq_true rfl) (tX8_get_0 ?_)
  refine cX8_get_1 (M_isTape _) ⟨by decide, by decide⟩ (by decide) ⟨Nat.le_refl _, Nat.le_refl _⟩ (fun r h1 e => ?_)
  obtain ⟨rfl, rfl⟩ := e
  refine tX8_get_4 (fun e => absurd ((z01 _).mp e) (t4_no ht)) (fun e1 => ?_)
  refine cX8_get_13 (C_in (d := 0) _ _ _) ⟨by decide, by decide⟩ (by decide) ⟨Nat.le_refl _, Nat.le_refl _⟩ (fun r h2 e => ?_)
  obtain ⟨rfl, rfl⟩ := e
  refine tX8_get_16 (fun e => absurd ((f64_2 y).mp ((z01 _).mp e)) hy) (fun e2 => ?_)
  refine cX8_get_23 (k := 40) (M_lacks g42 g55 g56 ht hneg hsz) g42 ⟨by decide, by decide⟩ (by decide) ⟨Nat.le_refl _, Nat.le_refl _⟩ (fun r h3 e => ?_)
  by_cases hf : fo (fs t) (nI L) y x = 0
  · rw [if_pos hf] at e
    obtain ⟨rfl, rfl⟩ := e
    obtain ⟨-, -, j, hj, rfl⟩ := fo_0 hL hf
    refine tX8_get_26 g42 g57 (fun _ => by rw [ix_200]; exact vp_in_nI (by omega) (by decide)) (fun _ => ?_) (fun e => absurd rfl e)
    rw [if_pos hf, ix_200, nI_clamp (by omega), nI_clamp (by omega)]
    exact ⟨rfl, rfl⟩
  · rw [if_neg hf] at e
    obtain ⟨rfl, rfl⟩ := e
    have hne : ¬ (-10 - fo (fs t) (nI L) y x) = 0 := by
      unfold fo
      split
      · decide
      · split
        · decide
        · split <;> decide
    refine tX8_get_26 (h := va_up h2 42 (cM k n a s mx mc mw (fo (fs t) (nI L) y x) mf mp mg)) rfl g57 (fun e => absurd e hne) (fun e => absurd e hne) (fun _ => ?_)
    rw [if_neg hf]
    exact ⟨rfl, rfl⟩
end MG
