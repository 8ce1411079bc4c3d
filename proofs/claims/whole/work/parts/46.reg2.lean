/-! factor and sum of the reference; part, coefficient: both sides -/
theorem in_w0 {a : Nat} (h2 : a ≤ 20000) (x : Int32) : (x.toInt64 < (0 : Int64) ∨ (nI a - (1 : Int32)).toInt64 < x.toInt64) ↔ (x < 0 ∨ nI a ≤ x) := by
  rcases Nat.eq_zero_or_pos a with h0 | h0
  · subst h0
    have e0 : (0 : Int64) = (0 : Int32).toInt64 := by decide
    rw [e0, i64_lt, i64_lt]
    have e1 : nI 0 - (1 : Int32) = -1 := by decide
    have e2 : nI 0 = 0 := by decide
    rw [e1, e2, Int32.lt_iff_toInt_lt, Int32.lt_iff_toInt_lt, Int32.le_iff_toInt_le]
    have e3 : (-1 : Int32).toInt = -1 := by decide
    have e4 : (0 : Int32).toInt = 0 := by decide
    rw [e3, e4]
    constructor <;> intro _ <;> omega
  · exact in_w h0 h2 x
def uF (F : Nat → Nat) (i v : Nat) : Nat → Nat := fun j => if j = i then v else F j
theorem uF_ok {k : Nat} {F : Nat → Nat} (hF : okF k F) {i v : Nat} (hv : v < k) : okF k (uF F i v) := fun j hj => by
  unfold uF
  by_cases hc : j = i
  · rw [if_pos hc]; exact hv
  · rw [if_neg hc]; exact hF j hj
theorem uF_is {F : Nat → Nat} {f : Nat → Int32} (hf : isF F f) (i v : Nat) : isF (uF F i v) (upd f i (nI v)) := fun j hj => by
  unfold uF
  by_cases hc : j = i
  · subst hc; rw [if_pos rfl, pk_us]
  · rw [if_neg hc, pk_un hc]; exact hf j hj
section RG2
variable {G : gx} {k n s : Nat} {F : Nat → Nat} {mx mc mw ml mf mp mg : Int32} {ff tt : Nat → Int32}
theorem M_factor_no {h : ah} {ms : Int32} (ok : okW k n) (g42 : h 42 = cM (nI k) (nI n) (nI (k ^ n)) ms mx mc mw ml mf mp mg) (g46 : h 46 = aI 14 ff) {x v : Int32} (hb : (x < 0 ∨ nI n ≤ x) ∨ (v < 0 ∨ nI k ≤ v)) : Ct G mX8_factor 2 0 0 [.ref 42, .int x, .int v] h (Rv (.int (-2)) h) := by
  have hk5 := ok.2.1
  have hn2 := ok.2.2.2.1
  have hx := in_w0 (a := n) (by omega) x
  have hv := in_w0 (a := k) (by omega) v
  refine Ct_of (by decide +kernel) (Nat.le_of_ble_eq_true rfl) (tX8_factor_0 g42 ?_)
  refine cX8_factor_10 (C_in (d := 0) _ _ _) ⟨by decide, by decide⟩ (by decide) ⟨Nat.le_refl _, Nat.le_refl _⟩ (fun r h1 e => ?_)
  obtain ⟨rfl, rfl⟩ := e
  refine tX8_factor_13 g42 (fun _ => ⟨rfl, rfl⟩) (fun e1 => ?_)
  refine cX8_factor_26 (C_in (d := 0) _ _ _) ⟨by decide, by decide⟩ (by decide) ⟨Nat.le_refl _, Nat.le_refl _⟩ (fun r h2 e => ?_)
  obtain ⟨rfl, rfl⟩ := e
  have no : ∀ {P : Prop}, ¬ (if v.toInt64 < (0 : Int64) ∨ (nI k - 1).toInt64 < v.toInt64 then (0 : Int32) else 1) = 0 → P := fun e2 => by
    rcases hb with q | q
    · exact absurd ((z01 _).mpr (hx.mpr q)) e1
    · exact absurd ((z01 _).mpr (hv.mpr q)) e2
  exact tX8_factor_29 g42 g46 (fun e => no e) (fun e => no e) (fun e => no e) (fun _ => ⟨rfl, rfl⟩)
theorem M_factor {h : ah} {i v : Nat} (ok : okW k n) (hF : okF k F) (hs : s < k) (g42 : h 42 = cM (nI k) (nI n) (nI (k ^ n)) (nI s) mx mc mw ml mf mp mg) (g46 : h 46 = aI 14 ff) (hff : isF F ff) (g47 : h 47 = aI 20000 tt) (hi : i < n) (hv : v < k) : Ct G mX8_factor 2 0 0 [.ref 42, .int (nI i), .int (nI v)] h (fun r h2 => r = some (.int (ff i)) ∧ h2 42 = cM (nI k) (nI n) (nI (k ^ n)) (nI s) 0 mc mw ml mf mp mg ∧ h2 46 = aI 14 (upd ff i (nI v)) ∧ (∃ t2, h2 47 = aI 20000 t2 ∧ ∀ w, w < k ^ n → t2 w = nI (ld k n (uF F i v) s w)) ∧ Fr [42, 46, 47] h h2) := by
  have hk5 := ok.2.1
  have hn2 := ok.2.2.2.1
  have hx : ¬ (if (nI i).toInt64 < (0 : Int64) ∨ (nI n - 1).toInt64 < (nI i).toInt64 then (0 : Int32) else 1) = 0 := fun e => ((in_w0 (a := n) (by omega) _).mp ((z01 _).mp e)).elim (nI_pos (by omega)) (nI_ge hi (by omega))
  have hy : ¬ (if (nI v).toInt64 < (0 : Int64) ∨ (nI k - 1).toInt64 < (nI v).toInt64 then (0 : Int32) else 1) = 0 := fun e => ((in_w0 (a := k) (by omega) _).mp ((z01 _).mp e)).elim (nI_pos (by omega)) (nI_ge hv (by omega))
  refine Ct_of (by decide +kernel) (Nat.le_of_ble_eq_true rfl) (tX8_factor_0 g42 ?_)
  refine cX8_factor_10 (C_in (d := 0) _ _ _) ⟨by decide, by decide⟩ (by decide) ⟨Nat.le_refl _, Nat.le_refl _⟩ (fun r h1 e => ?_)
  obtain ⟨rfl, rfl⟩ := e
  refine tX8_factor_13 g42 (fun e => absurd e hx) (fun e1 => ?_)
  refine cX8_factor_26 (C_in (d := 0) _ _ _) ⟨by decide, by decide⟩ (by decide) ⟨Nat.le_refl _, Nat.le_refl _⟩ (fun r h2 e => ?_)
  obtain ⟨rfl, rfl⟩ := e
  refine tX8_factor_29 g42 g46 (fun _ => vp_in_nI (by omega) (by decide)) (fun _ => vp_in_nI (by omega) (by decide)) (fun _ => ?_) (fun e => absurd e hy)
  rw [nI_clamp (by omega)]
  refine cX8_factor_50 (k := 40) (d2 := 0) (mc2 := 0) (ms2 := 0) (M_lead (h := va_up h2 46 (aI 14 (upd ff i (nI v)))) (d := 0) ok (uF_ok hF hv) hs g42 rfl (uF_is hff i v) g47) g42 ⟨by decide, by decide⟩ (Nat.le_of_ble_eq_true rfl) ⟨Nat.le_refl _, Nat.le_refl _⟩ (fun r h3 e => ?_)
  obtain ⟨rfl, a42, a47, hfr⟩ := e
  refine tX8_factor_53 ⟨rfl, a42, ?_, a47, ?_⟩
  · exact (hfr 46 (by decide)).trans rfl
  · exact Fr.tr (Fr.rf.up (by decide)) hfr (by decide)
theorem M_sum {h : ah} {v : Int32} (ok : okW k n) (hF : okF k F) {ms : Int32} (g42 : h 42 = cM (nI k) (nI n) (nI (k ^ n)) ms mx mc mw ml mf mp mg) (g46 : h 46 = aI 14 ff) (hff : isF F ff) (g47 : h 47 = aI 20000 tt) : Ct G mX8_sum 2 0 0 [.ref 42, .int v] h (fun r h2 => if v < 0 ∨ nI k ≤ v then r = some (.int (-2)) ∧ h2 = h else r = some (.int ms) ∧ ∃ s, s < k ∧ v = nI s ∧ h2 42 = cM (nI k) (nI n) (nI (k ^ n)) (nI s) 0 mc mw ml mf mp mg ∧ (∃ t2, h2 47 = aI 20000 t2 ∧ ∀ w, w < k ^ n → t2 w = nI (ld k n F s w)) ∧ Fr [42, 47] h h2) := by
  have hk5 := ok.2.1
  have hv := in_w0 (a := k) (by omega) v
  refine Ct_of (by decide +kernel) (Nat.le_of_ble_eq_true rfl) (tX8_sum_0 g42 ?_)
  refine cX8_sum_10 (C_in (d := 0) _ _ _) ⟨by decide, by decide⟩ (by decide) ⟨Nat.le_refl _, Nat.le_refl _⟩ (fun r h1 e => ?_)
  obtain ⟨rfl, rfl⟩ := e
  refine tX8_sum_13 g42 (fun e => ?_) (fun e => by rw [if_pos (hv.mp ((z01 _).mp e))]; exact ⟨rfl, rfl⟩)
  have hno : ¬ (v < 0 ∨ nI k ≤ v) := fun q => e ((z01 _).mpr (hv.mpr q))
  obtain ⟨s, hs, rfl⟩ : ∃ s, s < k ∧ v = nI s := by
    obtain ⟨s, hs, rfl⟩ := nI_of2 (M := nI k) (n := k) (nI_toInt (by omega)) (fun q => hno (Or.inl q)) (Int32.le_of_lt (Int32.not_le.mp (fun q => hno (Or.inr q))))
    refine ⟨s, ?_, rfl⟩
    rcases Nat.lt_or_ge s k with q | q
    · exact q
    · exact absurd (Or.inr (nI_le q (by omega))) hno
  refine cX8_sum_30 (k := 40) (d2 := 0) (mc2 := 0) (ms2 := 0) (M_lead (h := va_up h1 42 (cM (nI k) (nI n) (nI (k ^ n)) (nI s) mx mc mw ml mf mp mg)) (d := 0) ok hF hs rfl g46 hff g47) rfl ⟨by decide, by decide⟩ (Nat.le_of_ble_eq_true rfl) ⟨Nat.le_refl _, Nat.le_refl _⟩ (fun r h3 e3 => ?_)
  obtain ⟨rfl, a42, a47, hfr⟩ := e3
  refine tX8_sum_33 ?_
  rw [if_neg hno]
  exact ⟨rfl, s, hs, rfl, a42, a47, Fr.tr (Fr.rf.up (by decide)) hfr (by decide)⟩
end RG2
/-- the first of some numbers that were noted -/
def a_part (P : Nat) (b : Nat → Int32) (x : Int32) : Int32 := if x < 0 ∨ nI P ≤ x then -2 else b x.toNatClampNeg
def a_coef (L : Nat) (b : Nat → Int32) (x : Int32) : Int32 := if x < 1 ∨ nI L < x then -2 else b x.toNatClampNeg
theorem p_pick {P : Nat} (hP : P ≤ 20000) {x : Int32} (hx : ¬ (x < 0 ∨ nI P ≤ x)) : ∃ j, j < P ∧ x = nI j := by
  obtain ⟨s, hs, rfl⟩ := nI_of2 (M := nI P) (n := P) (nI_toInt (by omega)) (fun q => hx (Or.inl q)) (Int32.le_of_lt (Int32.not_le.mp (fun q => hx (Or.inr q))))
  refine ⟨s, ?_, rfl⟩
  rcases Nat.lt_or_ge s P with q | q
  · exact q
  · exact absurd (Or.inr (nI_le q (by omega))) hx
theorem c_pick {P : Nat} (hP : P ≤ 20000) {x : Int32} (hx : ¬ (x < 1 ∨ nI P < x)) : ∃ j, 1 ≤ j ∧ j ≤ P ∧ x = nI j := by
  obtain ⟨s, hs, rfl⟩ := nI_of2 (M := nI P) (n := P) (nI_toInt (by omega)) (fun q => hx (Or.inl (Int32.lt_trans q (by decide)))) (Int32.not_lt.mp (fun q => hx (Or.inr q)))
  refine ⟨s, ?_, hs, rfl⟩
  rcases Nat.lt_or_ge s 1 with q | q
  · exact absurd (Or.inl (nI_lt (b := 1) q (by decide))) hx
  · exact q
section PT
variable {G : gx} {h : ah} {f l k n a ms mx mc mw ml mf : Int32}
theorem X_part {P : Nat} {b : Nat → Int32} (hP : P ≤ 200) (g2 : h 2 = cX f l) (g36 : h 36 = (0, .inl [.ref 37, .int (nI P)])) (g37 : h 37 = aI 200 b) (x : Int32) {d : Nat} : Ct G mX7_part d 0 0 [.ref 2, .int x] h (Rv (.int (a_part P b x)) h) := by
  refine Ct_of (by decide +kernel) (Nat.le_of_ble_eq_true rfl) (tX7_part_0 g2 g36 g37 (fun e => ⟨by rw [a_part, if_pos (Or.inl e)], rfl⟩) (fun e1 e2 => ?_) (fun e1 e2 => ⟨by rw [a_part, if_neg (fun q => q.elim e1 (fun q => absurd e2 (Int32.not_lt.mpr q)))], rfl⟩) (fun e1 e2 => ⟨by rw [a_part, if_pos (Or.inr (Int32.not_lt.mp e2))], rfl⟩))
  obtain ⟨j, hj, rfl⟩ := p_pick (by omega) (fun q => q.elim e1 (fun q => absurd e2 (Int32.not_lt.mpr q)))
  exact vp_in_nI (by omega) (by decide)
theorem M_part {P : Nat} {b : Nat → Int32} {mg : Int32} (hP : P ≤ 200) (g42 : h 42 = cM k n a ms mx mc mw ml mf (nI P) mg) (g59 : h 59 = aI 200 b) (x : Int32) : Ct G mX8_part 1 0 0 [.ref 42, .int x] h (Rv (.int (a_part P b x)) h) := by
  have hx := in_w0 (a := P) (by omega) x
  refine Ct_of (by decide +kernel) (Nat.le_of_ble_eq_true rfl) (tX8_part_0 g42 ?_)
  refine cX8_part_10 (C_in (d := 0) _ _ _) ⟨by decide, by decide⟩ (by decide) ⟨Nat.le_refl _, Nat.le_refl _⟩ (fun r h1 e => ?_)
  obtain ⟨rfl, rfl⟩ := e
  refine tX8_part_13 g42 g59 (fun e => ⟨by rw [a_part, if_pos (hx.mp ((z01 _).mp e))], rfl⟩) (fun e => ?_) (fun e => ⟨by rw [a_part, if_neg (fun q => e ((z01 _).mpr (hx.mpr q)))], rfl⟩)
  obtain ⟨j, hj, rfl⟩ := p_pick (by omega) (fun q => e ((z01 _).mpr (hx.mpr q)))
  exact vp_in_nI (by omega) (by decide)
theorem X_coefficient {L m : Nat} {nw to : Nat → Int32} (hL : L ≤ 200) (hm : 0 < m) (hm2 : m ≤ 20000) (g2 : h 2 = cX f l) (g38 : h 38 = (1, .inl [.ref 39, .ref 40, .ref 41, .int (nI L), .int (nI m)])) (g39 : h 39 = aI 201 nw) (ht : ∀ j, 1 ≤ j → j ≤ L → (nI m - nw j) - (nI m - nw j) / nI m * nI m = to j) (x : Int32) : Ct G mX7_coefficient 1 0 0 [.ref 2, .int x] h (Rv (.int (a_coef L to x)) h) := by
  refine Ct_of (by decide +kernel) (Nat.le_of_ble_eq_true rfl) (tX7_coefficient_0 g2 g38 (fun e => ⟨by rw [a_coef, if_pos (Or.inl e)], rfl⟩) (fun e1 e2 => ?_) (fun e1 e2 => ⟨by rw [a_coef, if_pos (Or.inr (Int32.not_le.mp e2))], rfl⟩))
  have hx : ¬ (x < 1 ∨ nI L < x) := fun q => q.elim e1 (fun q => absurd e2 (Int32.not_le.mpr q))
  obtain ⟨j, h1, h2, rfl⟩ := c_pick (by omega) hx
  refine cX7_coefficient_26 (k := 36) (d2 := 0) (mc2 := 0) (ms2 := 0) (Q2 := Rv (.int (to j)) h) (Ct_of (by decide +kernel) (Nat.le_of_ble_eq_true rfl) (tX1_coefficientAt_0 g38 g39 (vp_in_nI (by omega) (by decide)) (nI_n0 hm hm2) ⟨by rw [nI_clamp (by omega), ht j h1 h2], rfl⟩)) g38 ⟨by decide, by decide⟩ (by decide) ⟨Nat.le_refl _, Nat.le_refl _⟩ (fun r h3 e => ?_)
  obtain ⟨rfl, rfl⟩ := e
  exact tX7_coefficient_29 ⟨by rw [a_coef, if_neg hx, nI_clamp (by omega)], rfl⟩
theorem M_coefficient {L : Nat} {to : Nat → Int32} {mp : Int32} (hL : L ≤ 200) (g42 : h 42 = cM k n a ms mx mc mw ml mf mp (nI L)) (g60 : h 60 = aI 201 to) (x : Int32) : Ct G mX8_coefficient 1 0 0 [.ref 42, .int x] h (Rv (.int (a_coef L to x)) h) := by
  have hx : (x.toInt64 < (1 : Int64) ∨ (nI L).toInt64 < x.toInt64) ↔ (x < 1 ∨ nI L < x) := by
    rw [show (1 : Int64) = (1 : Int32).toInt64 by decide]
    exact i64_r 1 (nI L) x
  refine Ct_of (by decide +kernel) (Nat.le_of_ble_eq_true rfl) (tX8_coefficient_0 g42 ?_)
  refine cX8_coefficient_8 (C_in (d := 0) _ _ _) ⟨by decide, by decide⟩ (by decide) ⟨Nat.le_refl _, Nat.le_refl _⟩ (fun r h1 e => ?_)
  obtain ⟨rfl, rfl⟩ := e
  refine tX8_coefficient_11 g42 g60 (fun e => ⟨by rw [a_coef, if_pos (hx.mp ((z01 _).mp e))], rfl⟩) (fun e => ?_) (fun e => ⟨by rw [a_coef, if_neg (fun q => e ((z01 _).mpr (hx.mpr q)))], rfl⟩)
  obtain ⟨j, h1, h2, rfl⟩ := c_pick (by omega) (fun q => e ((z01 _).mpr (hx.mpr q)))
  exact vp_in_nI (by omega) (by decide)
end PT
