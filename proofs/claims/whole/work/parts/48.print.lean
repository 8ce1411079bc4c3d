/-! print and copy: both sides -/
theorem sub_toInt {L m : Nat} (hL : L ≤ 20000) (hm : m < 2 ^ 31) : (nI L - nI m).toInt = (L : Int) - m := by
  rw [Int32.toInt_sub, nI_toInt (by omega), nI_toInt hm, Int.bmod_def]
  omega
abbrev wi (L : Nat) (x z : Int32) : Prop := x < 0 ∨ z < 0 ∨ nI L - z < x
theorem wi_pick {L : Nat} (hL : L ≤ 200) {x z : Int32} (h : ¬ wi L x z) : ∃ i m, i + m ≤ L ∧ x = nI i ∧ z = nI m := by
  obtain ⟨i, hi, rfl⟩ := nI_of (fun q => h (Or.inl q))
  obtain ⟨m, hm, rfl⟩ := nI_of (fun q => h (Or.inr (Or.inl q)))
  refine ⟨i, m, ?_, rfl, rfl⟩
  have h3 : ¬ nI L - nI m < nI i := fun q => h (Or.inr (Or.inr q))
  rw [Int32.lt_iff_toInt_lt, sub_toInt (by omega) hm, nI_toInt hi] at h3
  omega
theorem wi_64 {L : Nat} (hL : L ≤ 200) {x z : Int32} (h1 : ¬ x < 0) (h2 : ¬ z < 0) : (0 < lg_cmp (x.toInt64 + z.toInt64) (nI L).toInt64) ↔ nI L - z < x := by
  obtain ⟨i, hi, rfl⟩ := nI_of h1
  obtain ⟨m, hm, rfl⟩ := nI_of h2
  rw [lgc_gt, Int64.lt_iff_toInt_lt, Int32.lt_iff_toInt_lt, sub_toInt (by omega) hm, nI_toInt hi, Int64.toInt_add, Int32.toInt_toInt64, Int32.toInt_toInt64, Int32.toInt_toInt64, nI_toInt hi, nI_toInt hm, nI_toInt (by omega), Int.bmod_def]
  omega
/-- m items from place a on, by a function -/
def wr (g f : Nat → Int32) (a m : Nat) : Nat → Int32 := fun j => if a ≤ j ∧ j < a + m then g (j - a) else f j
theorem wr_0 (g f : Nat → Int32) (a : Nat) : wr g f a 0 = f := by
  funext j
  exact if_neg (by omega)
theorem wr_s (g f : Nat → Int32) (a m : Nat) : upd (wr g f a m) (a + m) (g m) = wr g f a (m + 1) := by
  funext j
  by_cases hj : j = a + m
  · subst hj
    rw [pk_us]
    unfold wr
    rw [if_pos (by omega), show a + m - a = m by omega]
  · rw [pk_un hj]
    unfold wr
    by_cases hc : a ≤ j ∧ j < a + m
    · rw [if_pos hc, if_pos (by omega)]
    · rw [if_neg hc, if_neg (by omega)]
theorem up_id {h : ah} {c : Nat} {e : ce} (g : h c = e) : va_up h c e = h := by
  funext j
  by_cases hj : j = c
  · subst hj; rw [up_s, g]
  · rw [up_n _ _ hj]
section PR
variable {G : gx} {h : ah} {k n : Nat} {f l : Int32} {tp : Nat → Option Nat}
theorem C_writeLetters {kd fm : Int32} {c i m p : Nat} {rl it : Nat → Int32} (ok : okW k n) (g3 : h 3 = cW k n) (g17 : h 17 = cO kd fm) (g18 : h 18 = aB 20000 rl) (gc : h (c + 2) = aI 200 it) (hc : 16 < c) (hi : i + m ≤ 200) (hp : p < k ^ n) {d : Nat} : Ct G mX4_writeLetters d 0 0 [.ref 17, .int (nI p), .int (nI m), .ref (c + 2), .int (nI i)] h (fun r h2 => r = none ∧ h2 = va_up h (c + 2) (aI 200 (wr (fun j => rl ((p + j) % k ^ n)) it i m))) := by
  have hN := ok.le (Nat.le_refl n)
  have h0 := ok.pp n
  generalize hQ : (fun (r : Option Value) (h2 : ah) => r = none ∧ h2 = va_up h (c + 2) (aI 200 (wr (fun j => rl ((p + j) % k ^ n)) it i m))) = Q
  have key : ∀ q j, j + q = m → V G mX4_writeLetters (b0 d) 6 [some (.ref 17), some (.int (nI p)), some (.int (nI m)), some (.ref (c + 2)), some (.int (nI i)), some (.int (nI ((p + j) % k ^ n))), some (.int (nI j))] [] (va_up h (c + 2) (aI 200 (wr (fun j => rl ((p + j) % k ^ n)) it i j))) Q := by
    intro q
    induction q with
    | zero =>
      intro j hj
      refine tX4_writeLetters_6 ((up_n _ _ (by omega)).trans g17) ((up_n _ _ (by omega)).trans g18) (up_s _ _ _) (by omega) ((up_n _ _ (by omega)).trans g3) (by omega) (fun _ => ?_) (fun e => absurd (nI_le (by omega) (by omega)) e) (fun e => absurd (nI_le (by omega) (by omega)) e) (fun e => absurd (nI_le (by omega) (by omega)) e) (fun e => absurd (nI_le (by omega) (by omega)) e)
      rw [← hQ]
      exact ⟨rfl, by rw [show j = m by omega]⟩
    | succ q ih =>
      intro j hj
      have hm := Nat.mod_lt (p + j) h0
      have e1 : (nI i + nI j).toNatClampNeg = i + j := by rw [nI_add, nI_clamp (by omega)]
      have e2 : upd (wr (fun j => rl ((p + j) % k ^ n)) it i j) (i + j) (rl ((p + j) % k ^ n)) = wr (fun j => rl ((p + j) % k ^ n)) it i (j + 1) := wr_s (fun j => rl ((p + j) % k ^ n)) it i j
      have ih2 := ih (j + 1) (by omega)
      have hs : (p + (j + 1)) % k ^ n = if (p + j) % k ^ n + 1 < k ^ n then (p + j) % k ^ n + 1 else 0 := by
        rw [show p + (j + 1) = (p + j) + 1 by omega, Nat.add_mod]
        by_cases h1 : k ^ n = 1
        · rw [h1, if_neg (by omega)]; omega
        · rw [Nat.mod_eq_of_lt (show 1 < k ^ n by omega)]
          by_cases hc2 : (p + j) % k ^ n + 1 < k ^ n
          · rw [if_pos hc2, Nat.mod_eq_of_lt hc2]
          · rw [if_neg hc2, show (p + j) % k ^ n + 1 = k ^ n by omega, Nat.mod_self]
      refine tX4_writeLetters_6 ((up_n _ _ (by omega)).trans g17) ((up_n _ _ (by omega)).trans g18) (up_s _ _ _) (by omega) ((up_n _ _ (by omega)).trans g3) (by omega) (fun e => absurd e (nI_ge (by omega) (by omega))) (fun _ => vp_in_nI (by omega) (by decide)) (fun _ => by rw [nI_add]; exact vp_in_nI (by omega) (by decide)) (fun _ e => ?_) (fun _ e => ?_)
      · rw [nI_1, nI_leI (by omega) (by omega)] at e
        rw [if_neg (by omega)] at hs
        rw [e1, nI_clamp (by omega), e2, nI_1, bx_uu]
        rw [hs] at ih2
        exact ih2
      · rw [nI_1, nI_leI (by omega) (by omega)] at e
        rw [if_pos (by omega)] at hs
        rw [e1, nI_clamp (by omega), e2, nI_1, nI_1, bx_uu]
        rw [hs] at ih2
        exact ih2
  refine Ct_of (by decide +kernel) (Nat.le_of_ble_eq_true rfl) (tX4_writeLetters_0 ?_)
  have := key m 0 (by omega)
  rw [wr_0, up_id gc, show (p + 0) % k ^ n = p from Nat.mod_eq_of_lt hp] at this
  exact this
/-- print's answer without a change -/
theorem X_print_no {kd fm : Int32} (ok : okW k n) (g2 : h 2 = cX f l) (g3 : h 3 = cW k n) (g17 : h 17 = cO kd fm) (g23 : h 23 = (4, .inr (4, .inr (.inr tp)))) {x1 x2 x3 x4 : Int32} (hb : ((x1 < 0 ∨ 4 ≤ x1) ∨ (x3 < 0 ∨ nI (k ^ n) ≤ x3) ∨ x4 < 0) ∨ kd = -1) : Ct G mX7_print 2 0 0 [.ref 2, .int x1, .int x2, .int x3, .int x4] h (Rv (.int (if (x1 < 0 ∨ 4 ≤ x1) ∨ (x3 < 0 ∨ nI (k ^ n) ≤ x3) ∨ x4 < 0 then -2 else -3)) h) := by
  refine Ct_of (by decide +kernel) (Nat.le_of_ble_eq_true rfl) (tX7_print_0 ?_)
  refine cX7_print_1 (C_isTape (d := 0) _) ⟨by decide, by decide⟩ (Nat.le_of_ble_eq_true rfl) ⟨Nat.le_refl _, Nat.le_refl _⟩ (fun r h2 e => ?_)
  obtain ⟨rfl, e⟩ := e; replace e := e.symm; subst e
  refine tX7_print_4 g2 g3 (fun e => ⟨by rw [if_pos (Or.inl ((z01 _).mp e))], rfl⟩) (fun _ e => ⟨by rw [if_pos (Or.inr (Or.inl (Or.inl e)))], rfl⟩) (fun _ _ e => ⟨by rw [if_pos (Or.inr (Or.inl (Or.inr e)))], rfl⟩) (fun e1 e2 e3 e4 => ?_) (fun _ _ _ e => ⟨by rw [if_pos (Or.inr (Or.inr (Int32.not_le.mp e)))], rfl⟩)
  have hn : ¬ ((x1 < 0 ∨ 4 ≤ x1) ∨ (x3 < 0 ∨ nI (k ^ n) ≤ x3) ∨ x4 < 0) := fun q => q.elim (fun q => e1 ((z01 _).mpr q)) (fun q => q.elim (fun q => q.elim e2 e3) (fun q => Int32.not_lt.mpr e4 q))
  have hk := hb.resolve_left hn
  refine cX7_print_34 (k := 15) (C_isThere g17 (d := 0)) g17 ⟨by decide, by decide⟩ (Nat.le_of_ble_eq_true rfl) ⟨Nat.le_refl _, Nat.le_refl _⟩ (fun r h2 e => ?_)
  obtain ⟨rfl, e⟩ := e; replace e := e.symm; subst e
  exact tX7_print_37 (ta := 0) g2 g23 (fun e => absurd (by rw [if_pos hk]) e) (fun e => absurd (by rw [if_pos hk]) e) (fun e => absurd (by rw [if_pos hk]) e) (fun _ => ⟨by rw [if_neg hn], rfl⟩)
theorem X_print {kd fm2 : Int32} {t L p : Nat} {fm x2 x4 : Int32} {rl it : Nat → Int32} (ok : okW k n) (g2 : h 2 = cX f l) (g3 : h 3 = cW k n) (g17 : h 17 = cO kd fm2) (g18 : h 18 = aB 20000 rl) (hkd : ¬ kd = -1) (g23 : h 23 = (4, .inr (4, .inr (.inr tp)))) (htp : isTp tp) (ht : t < 4) (hL : L ≤ 200) (gt : h (3 * t + 22 + 2) = cTt t fm (nI L)) (gi : h (3 * t + 23 + 2) = aI 200 it) (hp : p < k ^ n) (h4 : ¬ x4 < 0) : Ct G mX7_print 2 0 0 [.ref 2, .int (nI t), .int x2, .int (nI p), .int x4] h (fun r h2 => if fm = -1 then r = some (.int (-11)) ∧ h2 = va_up h 2 (cX f 1) else if wi L x2 x4 then r = some (.int (-12)) ∧ h2 = va_up h 2 (cX f 2) else r = some (.int x4) ∧ h2 = va_up h (3 * t + 23 + 2) (aI 200 (wr (fun j => rl ((p + j) % k ^ n)) it x2.toNatClampNeg x4.toNatClampNeg))) := by
  have hN := ok.le (Nat.le_refl n)
  have e0 := t4_no ht
  refine Ct_of (by decide +kernel) (Nat.le_of_ble_eq_true rfl) (tX7_print_0 ?_)
  refine cX7_print_1 (C_isTape (d := 0) _) ⟨by decide, by decide⟩ (Nat.le_of_ble_eq_true rfl) ⟨Nat.le_refl _, Nat.le_refl _⟩ (fun r h2 e => ?_)
  obtain ⟨rfl, e⟩ := e; replace e := e.symm; subst e
  refine tX7_print_4 g2 g3 (fun e => absurd ((z01 _).mp e) e0) (fun _ e => absurd e (nI_pos (by omega))) (fun _ _ e => absurd e (nI_ge hp (by omega))) (fun _ _ _ e4 => ?_) (fun _ _ _ e => absurd (Int32.not_le.mp e) h4)
  refine cX7_print_34 (k := 15) (C_isThere g17 (d := 0)) g17 ⟨by decide, by decide⟩ (Nat.le_of_ble_eq_true rfl) ⟨Nat.le_refl _, Nat.le_refl _⟩ (fun r h2 e => ?_)
  obtain ⟨rfl, e⟩ := e; replace e := e.symm; subst e
  refine tX7_print_37 (ta := 3 * t + 22) g2 g23 (fun _ => vp_in_nI ht (by decide)) (fun _ => by rw [nI_clamp (by omega)]; exact htp t ht) (fun _ => ?_) (fun e => absurd e (by rw [if_neg hkd]; decide))
  refine cX7_print_49 (C_isLost gt (d := 0)) gt ⟨by decide, by decide⟩ (Nat.le_of_ble_eq_true rfl) ⟨Nat.le_refl _, Nat.le_refl _⟩ (fun r h3 e => ?_)
  obtain ⟨rfl, e⟩ := e; replace e := e.symm; subst e
  refine tX7_print_52 (ta := 3 * t + 22) g2 g23 (fun _ => vp_in_nI ht (by decide)) (fun _ => by rw [nI_clamp (by omega)]; exact htp t ht) (fun e => ?_) (fun e => ?_)
  · have hfm : ¬ fm = -1 := fun q => by rw [if_pos q] at e; exact absurd e (by decide)
    refine cX7_print_70 (C_hasItems gt x2 x4 (d := 0)) gt ⟨by decide, by decide⟩ (Nat.le_of_ble_eq_true rfl) ⟨Nat.le_refl _, Nat.le_refl _⟩ (fun r h4 e2 => ?_)
    obtain ⟨rfl, e2⟩ := e2; replace e2 := e2.symm; subst e2
    refine tX7_print_73 (ta := 3 * t + 22) g2 g23 gt (fun _ => vp_in_nI ht (by decide)) (fun _ => by rw [nI_clamp (by omega)]; exact htp t ht) (fun e2 => ?_) (fun e2 => ?_)
    · have hw : ¬ wi L x2 x4 := fun q => e2 ((z01 _).mpr q)
      obtain ⟨i, m, him, rfl, rfl⟩ := wi_pick hL hw
      refine cX7_print_99 (k := 15) (C_writeLetters (c := 3 * t + 23) ok g3 g17 g18 gi (by omega) (by omega) hp (d := 0)) g17 ⟨by decide, by decide⟩ (Nat.le_of_ble_eq_true rfl) ⟨Nat.le_refl _, Nat.le_refl _⟩ (fun r h5 e3 => ?_)
      obtain ⟨rfl, e3⟩ := e3; replace e3 := e3.symm; subst e3
      refine tX7_print_102 ?_
      rw [if_neg hfm, if_neg hw, nI_clamp (by omega), nI_clamp (by omega)]
      exact ⟨rfl, rfl⟩
    · have hw : wi L x2 x4 := (z01 _).mp e2
      refine cX7_print_78 (k := 0) (C_finding g2 _ (d := 0)) g2 ⟨by decide, by decide⟩ (Nat.le_of_ble_eq_true rfl) ⟨Nat.le_refl _, Nat.le_refl _⟩ (fun r h5 e3 => ?_)
      obtain ⟨rfl, e3⟩ := e3; replace e3 := e3.symm; subst e3
      refine tX7_print_81 ?_
      rw [if_neg hfm, if_pos hw]
      exact ⟨by rw [show (-10 : Int32) - 2 = -12 by decide], rfl⟩
  · have hfm : fm = -1 := Decidable.not_not.mp (fun q => e (by rw [if_neg q]))
    refine cX7_print_57 (k := 0) (C_finding g2 _ (d := 0)) g2 ⟨by decide, by decide⟩ (Nat.le_of_ble_eq_true rfl) ⟨Nat.le_refl _, Nat.le_refl _⟩ (fun r h5 e3 => ?_)
    obtain ⟨rfl, e3⟩ := e3; replace e3 := e3.symm; subst e3
    refine tX7_print_60 ?_
    rw [if_pos hfm]
    exact ⟨by rw [show (-10 : Int32) - 1 = -11 by decide], rfl⟩
end PR
section MP
variable {G : gx} {h : ah} {k n : Nat} {s mx mc mw ml mf mp mg : Int32} {fs sz it rl : Nat → Int32}
theorem M_isWithin {kk nn a : Int32} {t L : Nat} {x z : Int32} (g42 : h 42 = cM kk nn a s mx mc mw ml mf mp mg) (g56 : h 56 = aI 4 sz) (ht : t < 4) (hL : L ≤ 200) (hsz : sz t = nI L) {d : Nat} : Ct G mX8_isWithin d 0 0 [.ref 42, .int (nI t), .int x, .int z] h (Rv (.int (if wi L x z then 0 else 1)) h) := by
  have hc : (nI t).toNatClampNeg = t := nI_clamp (by omega)
  refine Ct_of (by decide +kernel) (Nat.le_of_ble_eq_true rfl) (tX8_isWithin_0 g42 g56 (fun e => ⟨by rw [if_pos (Or.inl e)], rfl⟩) (fun _ e => ⟨by rw [if_pos (Or.inr (Or.inl e))], rfl⟩) (fun _ _ => vp_in_nI ht (by decide)) (fun e1 e2 e3 => ⟨?_, rfl⟩) (fun e1 e2 e3 => ⟨?_, rfl⟩))
  · rw [hc, hsz, wi_64 hL e1 e2] at e3
    rw [if_pos (Or.inr (Or.inr e3))]
  · rw [hc, hsz, wi_64 hL e1 e2] at e3
    rw [if_neg (fun q => q.elim e1 (fun q => q.elim e2 e3))]
theorem M_print_no (ok : okW k n) (g42 : h 42 = cM (nI k) (nI n) (nI (k ^ n)) s mx mc mw ml mf mp mg) (g55 : h 55 = aI 4 fs) {x1 x2 x3 x4 : Int32} (hb : ((x1 < 0 ∨ 4 ≤ x1) ∨ (x3 < 0 ∨ nI (k ^ n) ≤ x3) ∨ x4 < 0) ∨ mw = -1) : Ct G mX8_print 2 0 0 [.ref 42, .int x1, .int x2, .int x3, .int x4] h (Rv (.int (if (x1 < 0 ∨ 4 ≤ x1) ∨ (x3 < 0 ∨ nI (k ^ n) ≤ x3) ∨ x4 < 0 then -2 else -3)) h) := by
  have hN := ok.le (Nat.le_refl n)
  refine Ct_of (by decide +kernel) (Nat.le_of_ble_eq_true rfl) (tX8_print_0 ?_)
  refine cX8_print_1 (M_isTape _) ⟨by decide, by decide⟩ (Nat.le_of_ble_eq_true rfl) ⟨Nat.le_refl _, Nat.le_refl _⟩ (fun r h2 e => ?_)
  obtain ⟨rfl, e⟩ := e; replace e := e.symm; subst e
  refine tX8_print_4 g42 (fun e => ⟨by rw [if_pos (Or.inl ((z01 _).mp e))], rfl⟩) (fun e1 => ?_)
  refine cX8_print_17 (C_in (d := 0) _ _ _) ⟨by decide, by decide⟩ (Nat.le_of_ble_eq_true rfl) ⟨Nat.le_refl _, Nat.le_refl _⟩ (fun r h3 e => ?_)
  obtain ⟨rfl, e⟩ := e; replace e := e.symm; subst e
  have hx := in_w0 hN x3
  have key : ∀ q : Prop, ¬ (if x3.toInt64 < (0 : Int64) ∨ (nI (k ^ n) - (1 : Int32)).toInt64 < x3.toInt64 then (0 : Int32) else 1) = 0 → (0 : Int32) ≤ x4 → ¬ mw = -1 → q := fun q e2 e4 e5 => by
    rcases hb with (a | a | a) | a
    · exact absurd ((z01 _).mpr a) e1
    · exact absurd ((z01 _).mpr (hx.mpr a)) e2
    · exact absurd e4 (Int32.not_le.mpr a)
    · exact absurd a e5
  refine tX8_print_20 g42 g55 (fun e => ⟨by rw [if_pos (Or.inr (Or.inl (hx.mp ((z01 _).mp e))))], rfl⟩) (fun a b c => key _ a b c) (fun a b c => key _ a b c) (fun a b c => key _ a b c) (fun e2 e4 e5 => ⟨?_, rfl⟩) (fun _ e => ⟨by rw [if_pos (Or.inr (Or.inr (Int32.not_le.mp e)))], rfl⟩)
  rw [if_neg (fun q => q.elim (fun q => e1 ((z01 _).mpr q)) (fun q => q.elim (fun q => e2 ((z01 _).mpr (hx.mpr q))) (fun q => absurd e4 (Int32.not_le.mpr q))))]
theorem M_print {t L p : Nat} {x2 x4 : Int32} (ok : okW k n) (g42 : h 42 = cM (nI k) (nI n) (nI (k ^ n)) s mx mc mw ml mf mp mg) (g53 : h 53 = aI 20000 rl) (g55 : h 55 = aI 4 fs) (g56 : h 56 = aI 4 sz) (g57 : h 57 = aI 800 it) (hmw : ¬ mw = -1) (ht : t < 4) (hL : L ≤ 200) (hneg : 0 ≤ fs t ↔ ¬ fs t = -1) (hsz : sz t = nI L) (hp : p < k ^ n) (h4 : ¬ x4 < 0) : Ct G mX8_print 2 0 0 [.ref 42, .int (nI t), .int x2, .int (nI p), .int x4] h (fun r h2 => if fs t = -1 then r = some (.int (-11)) ∧ h2 = va_up h 42 (cM (nI k) (nI n) (nI (k ^ n)) s mx mc mw 1 mf mp mg) else if wi L x2 x4 then r = some (.int (-12)) ∧ h2 = va_up h 42 (cM (nI k) (nI n) (nI (k ^ n)) s mx mc mw 2 mf mp mg) else r = some (.int x4) ∧ h2 = va_up h 57 (aI 800 (wr (fun j => rl ((p + j) % k ^ n)) it (200 * t + x2.toNatClampNeg) x4.toNatClampNeg))) := by
  have hN := ok.le (Nat.le_refl n)
  have h0 := ok.pp n
  have hc : (nI t).toNatClampNeg = t := nI_clamp (by omega)
  have hx := in_w0 hN (nI p)
  have hnp : ¬ (nI p < 0 ∨ nI (k ^ n) ≤ nI p) := fun q => q.elim (nI_pos (by omega)) (nI_ge hp (by omega))
  refine Ct_of (by decide +kernel) (Nat.le_of_ble_eq_true rfl) (tX8_print_0 ?_)
  refine cX8_print_1 (M_isTape _) ⟨by decide, by decide⟩ (Nat.le_of_ble_eq_true rfl) ⟨Nat.le_refl _, Nat.le_refl _⟩ (fun r h2 e => ?_)
  obtain ⟨rfl, e⟩ := e; replace e := e.symm; subst e
  refine tX8_print_4 g42 (fun e => absurd ((z01 _).mp e) (t4_no ht)) (fun e1 => ?_)
  refine cX8_print_17 (C_in (d := 0) _ _ _) ⟨by decide, by decide⟩ (Nat.le_of_ble_eq_true rfl) ⟨Nat.le_refl _, Nat.le_refl _⟩ (fun r h3 e => ?_)
  obtain ⟨rfl, e⟩ := e; replace e := e.symm; subst e
  refine tX8_print_20 g42 g55 (fun e => absurd (hx.mp ((z01 _).mp e)) hnp) (fun _ _ _ => vp_in_nI ht (by decide)) (fun _ _ _ e => ?_) (fun _ _ _ e => ?_) (fun _ _ e => absurd e hmw) (fun _ e => absurd (Int32.not_le.mp e) h4)
  · rw [hc] at e
    have hfm := hneg.mp e
    refine cX8_print_62 (k := 40) (M_isWithin g42 g56 ht hL hsz (d := 0)) g42 ⟨by decide, by decide⟩ (Nat.le_of_ble_eq_true rfl) ⟨Nat.le_refl _, Nat.le_refl _⟩ (fun r h3 e2 => ?_)
    obtain ⟨rfl, e2⟩ := e2; replace e2 := e2.symm; subst e2
    refine tX8_print_65 (fun e2 => ?_) (fun e2 => ?_)
    · have hw : ¬ wi L x2 x4 := fun q => e2 ((z01 _).mpr q)
      simp only [if_neg hfm, if_neg hw]
      obtain ⟨i, m, him, rfl, rfl⟩ := wi_pick hL hw
      rw [nI_clamp (n := i) (by omega), nI_clamp (n := m) (by omega)]
      have key : ∀ q j, j + q = m → V G mX8_print (b0 2) 77 [some (.ref 42), some (.int (nI t)), some (.int (nI i)), some (.int (nI p)), some (.int (nI m)), some (.int (nI j))] [] (va_up h 57 (aI 800 (wr (fun j => rl ((p + j) % k ^ n)) it (200 * t + i) j))) (fun r h2 => r = some (.int (nI m)) ∧ h2 = va_up h 57 (aI 800 (wr (fun j => rl ((p + j) % k ^ n)) it (200 * t + i) m))) := by
        intro q
        induction q with
        | zero =>
          intro j hj
          refine tX8_print_77 ((up_n _ _ (by decide)).trans g42) ((up_n _ _ (by decide)).trans g53) (up_s _ _ _) (fun _ => ⟨rfl, by rw [show j = m by omega]⟩) (fun e => absurd (nI_le (by omega) (by omega)) e) (fun e => absurd (nI_le (by omega) (by omega)) e) (fun e => absurd (nI_le (by omega) (by omega)) e) (fun e => absurd (nI_le (by omega) (by omega)) e)
        | succ q ih =>
          intro j hj
          have hm := Nat.mod_lt (p + j) h0
          have e1 : (((200 : Int32) * nI t) + nI i) + nI j = nI (200 * t + i + j) := by rw [ix_200, nI_add]
          have e3 : (nI p + nI j) - (nI p + nI j) / nI (k ^ n) * nI (k ^ n) = nI ((p + j) % k ^ n) := by rw [nI_add, pk_rem (by omega) h0 (by omega)]
          refine tX8_print_77 ((up_n _ _ (by decide)).trans g42) ((up_n _ _ (by decide)).trans g53) (up_s _ _ _) (fun e => absurd e (nI_ge (by omega) (by omega))) (fun _ => nI_n0 h0 hN) (fun _ => by rw [e3]; exact vp_in_nI (by omega) (by decide)) (fun _ => by rw [e1]; exact vp_in_nI (by omega) (by decide)) (fun _ => ?_)
          have e4 : upd (wr (fun j => rl ((p + j) % k ^ n)) it (200 * t + i) j) (200 * t + i + j) (rl ((p + j) % k ^ n)) = wr (fun j => rl ((p + j) % k ^ n)) it (200 * t + i) (j + 1) := wr_s (fun j => rl ((p + j) % k ^ n)) it (200 * t + i) j
          rw [e1, e3, nI_clamp (by omega), nI_clamp (by omega), e4, nI_1, bx_uu]
          exact ih (j + 1) (by omega)
      have := key m 0 (by omega)
      rw [wr_0, up_id g57] at this
      exact this
    · have hw : wi L x2 x4 := (z01 _).mp e2
      refine cX8_print_70 (k := 40) (M_met g42 2 (d := 0)) g42 ⟨by decide, by decide⟩ (Nat.le_of_ble_eq_true rfl) ⟨Nat.le_refl _, Nat.le_refl _⟩ (fun r h4 e3 => ?_)
      obtain ⟨rfl, e3⟩ := e3; replace e3 := e3.symm; subst e3
      refine tX8_print_73 ?_
      rw [if_neg hfm, if_pos hw]
      exact ⟨by rw [show (-10 : Int32) - 2 = -12 by decide], rfl⟩
  · rw [hc] at e
    have hfm : fs t = -1 := Decidable.not_not.mp (fun q => e (hneg.mpr q))
    refine cX8_print_53 (k := 40) (M_met g42 1 (d := 0)) g42 ⟨by decide, by decide⟩ (Nat.le_of_ble_eq_true rfl) ⟨Nat.le_refl _, Nat.le_refl _⟩ (fun r h4 e3 => ?_)
    obtain ⟨rfl, e3⟩ := e3; replace e3 := e3.symm; subst e3
    refine tX8_print_56 ?_
    rw [if_pos hfm]
    exact ⟨by rw [show (-10 : Int32) - 1 = -11 by decide], rfl⟩
end MP
