/-! tape, lose: both sides -/
/-- the four tapes' array -/
def isTp (tp : Nat → Option Nat) : Prop := ∀ t, t < 4 → tp t = some (3 * t + 22 + 2)
abbrev cTt (t : Nat) (fm ln : Int32) : ce := cT (3 * t + 23) (3 * t + 24) fm ln
theorem t4_pick {x : Int32} (hx : ¬ (x < 0 ∨ 4 ≤ x)) : ∃ t, t < 4 ∧ x = nI t := by
  rcases pk_ix x (n := 4) (by decide) with h | h | h
  · exact absurd (Or.inl h) hx
  · exact absurd (Or.inr h) hx
  · exact h
theorem t4_no {t : Nat} (ht : t < 4) : ¬ (nI t < 0 ∨ (4 : Int32) ≤ nI t) := by
  rintro (h | h)
  · exact nI_pos (by omega) h
  · exact nI_ge (b := 4) ht (by decide) h
section XT
variable {G : gx} {h : ah} {f l : Int32} {tp : Nat → Option Nat}
theorem X_tape_no (g2 : h 2 = cX f l) (g23 : h 23 = (4, .inr (4, .inr (.inr tp)))) {x y z : Int32} (hb : (x < 0 ∨ 4 ≤ x) ∨ (y < 0 ∨ 2 < y) ∨ 200 < z) : Ct G mX7_tape 3 0 0 [.ref 2, .int x, .int y, .int z] h (Rv (.int (-2)) h) := by
  refine Ct_of (by decide +kernel) (Nat.le_of_ble_eq_true rfl) (tX7_tape_0 ?_)
  refine cX7_tape_1 (C_isTape (d := 0) x) ⟨by decide, by decide⟩ (by decide) ⟨Nat.le_refl _, Nat.le_refl _⟩ (fun r h1 e => ?_)
  obtain ⟨rfl, rfl⟩ := e
  refine tX7_tape_4 (fun _ => ⟨rfl, rfl⟩) (fun e1 => ?_)
  refine cX7_tape_8 (C_isForm (d := 0) y) ⟨by decide, by decide⟩ (by decide) ⟨Nat.le_refl _, Nat.le_refl _⟩ (fun r h2 e => ?_)
  obtain ⟨rfl, rfl⟩ := e
  have key : ¬ (if y < 0 ∨ 2 < y then (0 : Int32) else 1) = 0 → z ≤ 200 → False := fun e2 e3 => by
    rcases hb with q | q | q
    · exact e1 ((z01 _).mpr q)
    · exact e2 ((z01 _).mpr q)
    · exact Int32.not_le.mpr q e3
  exact tX7_tape_11 (ta := 0) g2 g23 (fun _ => ⟨rfl, rfl⟩) (fun a b => (key a b).elim) (fun a b => (key a b).elim) (fun a b => (key a b).elim) (fun a b => (key a b).elim) (fun _ _ => ⟨rfl, rfl⟩)
theorem X_tape_neg (g2 : h 2 = cX f l) (g23 : h 23 = (4, .inr (4, .inr (.inr tp)))) {x y z : Int32} (hx : ¬ (x < 0 ∨ 4 ≤ x)) (hy : ¬ (y < 0 ∨ 2 < y)) (hz : z < 0) : Ct G mX7_tape 3 0 0 [.ref 2, .int x, .int y, .int z] h (Rv (.int (-15)) (va_up h 2 (cX f 5))) := by
  have hz2 : z ≤ 200 := Int32.le_of_lt (Int32.lt_trans hz (by decide))
  refine Ct_of (by decide +kernel) (Nat.le_of_ble_eq_true rfl) (tX7_tape_0 ?_)
  refine cX7_tape_1 (C_isTape (d := 0) x) ⟨by decide, by decide⟩ (by decide) ⟨Nat.le_refl _, Nat.le_refl _⟩ (fun r h1 e => ?_)
  obtain ⟨rfl, rfl⟩ := e
  refine tX7_tape_4 (fun e => absurd ((z01 _).mp e) hx) (fun e1 => ?_)
  refine cX7_tape_8 (C_isForm (d := 0) y) ⟨by decide, by decide⟩ (by decide) ⟨Nat.le_refl _, Nat.le_refl _⟩ (fun r h2 e => ?_)
  obtain ⟨rfl, rfl⟩ := e
  refine tX7_tape_11 (ta := 0) g2 g23 (fun e => absurd ((z01 _).mp e) hy) (fun _ _ e => absurd hz (Int32.not_lt.mpr e)) (fun _ _ e => absurd hz (Int32.not_lt.mpr e)) (fun _ _ e => absurd hz (Int32.not_lt.mpr e)) (fun _ _ _ => ?_) (fun _ e => absurd hz2 e)
  refine cX7_tape_30 (k := 0) (C_finding g2 5 (d := 0)) g2 ⟨by decide, by decide⟩ (by decide) ⟨Nat.le_refl _, Nat.le_refl _⟩ (fun r h3 e => ?_)
  obtain ⟨rfl, rfl⟩ := e
  exact tX7_tape_33 ⟨by rw [show (-10 : Int32) - 5 = -15 by decide], rfl⟩
theorem X_tape {t L : Nat} {fm ln y : Int32} {it : Nat → Int32} (g2 : h 2 = cX f l) (g23 : h 23 = (4, .inr (4, .inr (.inr tp)))) (htp : isTp tp) (ht : t < 4) (gt : h (3 * t + 22 + 2) = cTt t fm ln) (gi : h (3 * t + 23 + 2) = aI 200 it) (hy : ¬ (y < 0 ∨ 2 < y)) (hL : L ≤ 200) : Ct G mX7_tape 3 0 0 [.ref 2, .int (nI t), .int y, .int (nI L)] h (Rv (.int (nI L)) (va_up (va_up h (3 * t + 22 + 2) (cTt t y (nI L))) (3 * t + 23 + 2) (aI 200 (fl it 0 L 0)))) := by
  refine Ct_of (by decide +kernel) (Nat.le_of_ble_eq_true rfl) (tX7_tape_0 ?_)
  refine cX7_tape_1 (C_isTape (d := 0) _) ⟨by decide, by decide⟩ (by decide) ⟨Nat.le_refl _, Nat.le_refl _⟩ (fun r h1 e => ?_)
  obtain ⟨rfl, rfl⟩ := e
  refine tX7_tape_4 (fun e => absurd ((z01 _).mp e) (t4_no ht)) (fun e1 => ?_)
  refine cX7_tape_8 (C_isForm (d := 0) y) ⟨by decide, by decide⟩ (by decide) ⟨Nat.le_refl _, Nat.le_refl _⟩ (fun r h2 e => ?_)
  obtain ⟨rfl, rfl⟩ := e
  refine tX7_tape_11 (ta := 3 * t + 22) g2 g23 (fun e => absurd ((z01 _).mp e) hy) (fun _ _ _ => vp_in_nI ht (by decide)) (fun _ _ _ => by rw [nI_clamp (by omega)]; exact htp t ht) (fun _ _ _ => ?_) (fun _ _ e => absurd (nI_pos' (by omega)) e) (fun _ e => absurd (nI_le (b := 200) hL (by decide)) e)
  refine cX7_tape_42 (k := 3 * t + 22) (C_begin gt gi (by omega) hL) gt ⟨by decide, by decide⟩ (by decide) ⟨Nat.le_refl _, Nat.le_refl _⟩ (fun r h3 e => ?_)
  obtain ⟨rfl, rfl⟩ := e
  exact tX7_tape_45 ⟨rfl, rfl⟩
theorem X_lose_no (g2 : h 2 = cX f l) (g23 : h 23 = (4, .inr (4, .inr (.inr tp)))) {x : Int32} (hb : x < 0 ∨ 4 ≤ x) : Ct G mX7_lose 1 0 0 [.ref 2, .int x] h (Rv (.int (-2)) h) := by
  refine Ct_of (by decide +kernel) (Nat.le_of_ble_eq_true rfl) (tX7_lose_0 ?_)
  refine cX7_lose_1 (C_isTape (d := 0) x) ⟨by decide, by decide⟩ (by decide) ⟨Nat.le_refl _, Nat.le_refl _⟩ (fun r h1 e => ?_)
  obtain ⟨rfl, rfl⟩ := e
  exact tX7_lose_4 (ta := 0) g2 g23 (fun e => absurd ((z01 _).mpr hb) e) (fun e => absurd ((z01 _).mpr hb) e) (fun e => absurd ((z01 _).mpr hb) e) (fun _ => ⟨rfl, rfl⟩)
/-- lose: a tape that is there is lost; of a lost one NULL -/
theorem X_lose {t : Nat} {fm ln : Int32} (g2 : h 2 = cX f l) (g23 : h 23 = (4, .inr (4, .inr (.inr tp)))) (htp : isTp tp) (ht : t < 4) (gt : h (3 * t + 22 + 2) = cTt t fm ln) : Ct G mX7_lose 1 0 0 [.ref 2, .int (nI t)] h (fun r h2 => if fm = -1 then r = some (.int (-11)) ∧ h2 = va_up h 2 (cX f 1) else r = some (.int ln) ∧ h2 = va_up h (3 * t + 22 + 2) (cTt t (-1) ln)) := by
  have z10 : ((if fm = -1 then (1 : Int32) else 0) = 0) ↔ ¬ fm = -1 := by
    by_cases hc : fm = -1
    · rw [if_pos hc]; exact ⟨fun e => absurd e (by decide), fun e => absurd hc e⟩
    · rw [if_neg hc]; exact ⟨fun _ => hc, fun _ => rfl⟩
  refine Ct_of (by decide +kernel) (Nat.le_of_ble_eq_true rfl) (tX7_lose_0 ?_)
  refine cX7_lose_1 (C_isTape (d := 0) _) ⟨by decide, by decide⟩ (by decide) ⟨Nat.le_refl _, Nat.le_refl _⟩ (fun r h1 e => ?_)
  obtain ⟨rfl, rfl⟩ := e
  refine tX7_lose_4 (ta := 3 * t + 22) g2 g23 (fun _ => vp_in_nI ht (by decide)) (fun _ => by rw [nI_clamp (by omega)]; exact htp t ht) (fun _ => ?_) (fun e => absurd ((z01 _).mp e) (t4_no ht))
  refine cX7_lose_16 (k := 3 * t + 22) (C_isLost gt (d := 0)) gt ⟨by decide, by decide⟩ (by decide) ⟨Nat.le_refl _, Nat.le_refl _⟩ (fun r h2 e => ?_)
  obtain ⟨rfl, rfl⟩ := e
  refine tX7_lose_19 (ta := 3 * t + 22) g2 g23 (fun _ => vp_in_nI ht (by decide)) (fun _ => by rw [nI_clamp (by omega)]; exact htp t ht) (fun e => ?_) (fun e => ?_)
  · refine cX7_lose_36 (k := 3 * t + 22) (C_drop gt (d := 0)) gt ⟨by decide, by decide⟩ (by decide) ⟨Nat.le_refl _, Nat.le_refl _⟩ (fun r h3 e3 => ?_)
    obtain ⟨rfl, rfl⟩ := e3
    refine tX7_lose_39 ?_
    rw [if_neg (z10.mp e)]
    exact ⟨rfl, rfl⟩
  · refine cX7_lose_24 (k := 0) (C_finding g2 1 (d := 0)) g2 ⟨by decide, by decide⟩ (by decide) ⟨Nat.le_refl _, Nat.le_refl _⟩ (fun r h3 e3 => ?_)
    obtain ⟨rfl, rfl⟩ := e3
    refine tX7_lose_27 ?_
    have hfm : fm = -1 := by
      by_cases hc : fm = -1
      · exact hc
      · exact absurd (z10.mpr hc) e
    rw [if_pos hfm]
    exact ⟨by rw [show (-10 : Int32) - 1 = -11 by decide], rfl⟩
end XT
section MT
variable {G : gx} {h : ah} {k n a s mx mc mw ml mf mp mg : Int32} {fo sz it : Nat → Int32}
theorem M_isTape (x : Int32) : Ct G mX8_isTape 1 0 0 [.int x] h (Rv (.int (if x < 0 ∨ 4 ≤ x then 0 else 1)) h) := by
  refine Ct_of (by decide +kernel) (Nat.le_of_ble_eq_true rfl) (tX8_isTape_0 ?_)
  refine cX8_isTape_6 (C_in (d := 0) _ _ _) ⟨by decide, by decide⟩ (by decide) ⟨Nat.le_refl _, Nat.le_refl _⟩ (fun r h2 e => ?_)
  obtain ⟨rfl, rfl⟩ := e
  refine tX8_isTape_9 ⟨?_, rfl⟩ (bz _)
  have hi : (x.toInt64 < (0 : Int64) ∨ (3 : Int64) < x.toInt64) ↔ (x < 0 ∨ 4 ≤ x) := by
    rw [show (0 : Int64) = (0 : Int32).toInt64 by decide, show (3 : Int64) = (3 : Int32).toInt64 by decide, i64_r 0 3 x]
    have e3 : (3 : Int32) < x ↔ (4 : Int32) ≤ x := by
      rw [Int32.lt_iff_toInt_lt, Int32.le_iff_toInt_le]
      have a1 : (3 : Int32).toInt = 3 := by decide
      have a2 : (4 : Int32).toInt = 4 := by decide
      rw [a1, a2]
      omega
    rw [e3]
  by_cases hc : x < 0 ∨ 4 ≤ x
  · rw [if_pos hc, if_pos (hi.mpr hc)]
  · rw [if_neg hc, if_neg (fun q => hc (hi.mp q))]
theorem M_met (g42 : h 42 = cM k n a s mx mc mw ml mf mp mg) (x : Int32) {d : Nat} : Ct G mX8_met d 0 0 [.ref 42, .int x] h (Rv (.int (-10 - x)) (va_up h 42 (cM k n a s mx mc mw x mf mp mg))) :=
  Ct_of (by decide +kernel) (Nat.le_of_ble_eq_true rfl) (tX8_met_0 g42 ⟨rfl, rfl⟩)
theorem M_lose_no (g42 : h 42 = cM k n a s mx mc mw ml mf mp mg) (g55 : h 55 = aI 4 fo) (g56 : h 56 = aI 4 sz) {x : Int32} (hb : x < 0 ∨ 4 ≤ x) : Ct G mX8_lose 2 0 0 [.ref 42, .int x] h (Rv (.int (-2)) h) := by
  refine Ct_of (by decide +kernel) (Nat.le_of_ble_eq_true rfl) (tX8_lose_0 ?_)
  refine cX8_lose_1 (M_isTape x) ⟨by decide, by decide⟩ (by decide) ⟨Nat.le_refl _, Nat.le_refl _⟩ (fun r h1 e => ?_)
  obtain ⟨rfl, rfl⟩ := e
  exact tX8_lose_4 g42 g55 g56 (fun e => absurd ((z01 _).mpr hb) e) (fun e => absurd ((z01 _).mpr hb) e) (fun e => absurd ((z01 _).mpr hb) e) (fun e => absurd ((z01 _).mpr hb) e) (fun e => absurd ((z01 _).mpr hb) e) (fun _ => ⟨rfl, rfl⟩)
theorem M_lose {t : Nat} (g42 : h 42 = cM k n a s mx mc mw ml mf mp mg) (g55 : h 55 = aI 4 fo) (g56 : h 56 = aI 4 sz) (ht : t < 4) : Ct G mX8_lose 2 0 0 [.ref 42, .int (nI t)] h (fun r h2 => if 0 ≤ fo t then r = some (.int (sz t)) ∧ h2 = va_up h 55 (aI 4 (upd fo t (-1))) else r = some (.int (-11)) ∧ h2 = va_up h 42 (cM k n a s mx mc mw 1 mf mp mg)) := by
  refine Ct_of (by decide +kernel) (Nat.le_of_ble_eq_true rfl) (tX8_lose_0 ?_)
  refine cX8_lose_1 (M_isTape _) ⟨by decide, by decide⟩ (by decide) ⟨Nat.le_refl _, Nat.le_refl _⟩ (fun r h1 e => ?_)
  obtain ⟨rfl, rfl⟩ := e
  have hc : (nI t).toNatClampNeg = t := nI_clamp (by omega)
  refine tX8_lose_4 g42 g55 g56 (fun _ => vp_in_nI ht (by decide)) (fun _ _ => vp_in_nI ht (by decide)) (fun _ _ => vp_in_nI ht (by decide)) (fun _ e => ?_) (fun _ e => ?_) (fun e => absurd ((z01 _).mp e) (t4_no ht))
  · rw [hc] at e ⊢
    rw [if_pos e]
    exact ⟨rfl, rfl⟩
  · refine cX8_lose_21 (k := 40) (M_met g42 1 (d := 0)) g42 ⟨by decide, by decide⟩ (by decide) ⟨Nat.le_refl _, Nat.le_refl _⟩ (fun r h3 e3 => ?_)
    obtain ⟨rfl, rfl⟩ := e3
    refine tX8_lose_24 ?_
    rw [hc] at e
    rw [if_neg e]
    exact ⟨by rw [show (-10 : Int32) - 1 = -11 by decide], rfl⟩
end MT
