/-! parts: both sides (Duval's way) -/
/-- reading on: (earlier, at) -/
def du1 (v : Nat → Nat) (L b : Nat) : Nat → Nat → Nat → Nat × Nat
  | 0, e, a => (e, a)
  | m + 1, e, a => if a < L ∧ v e ≤ v a then du1 v L b m (if v e < v a then b else e + 1) (a + 1) else (e, a)
theorem du1_ok (v : Nat → Nat) (L b : Nat) : ∀ m e a, a + m = L → b ≤ e → e < a → b ≤ (du1 v L b m e a).1 ∧ (du1 v L b m e a).1 < (du1 v L b m e a).2 ∧ (du1 v L b m e a).2 ≤ L
  | 0, e, a, h1, h2, h3 => ⟨h2, h3, by show a ≤ L; omega⟩
  | m + 1, e, a, h1, h2, h3 => by
    unfold du1
    by_cases hc : a < L ∧ v e ≤ v a
    · rw [if_pos hc]
      refine du1_ok v L b m _ (a + 1) (by omega) ?_ ?_
      · split <;> omega
      · split <;> omega
    · rw [if_neg hc]
      exact ⟨h2, h3, by show a ≤ L; omega⟩
/-- noting the parts: (begin, found, begins) -/
def du2 (z e : Nat) : Nat → Nat → Nat → (Nat → Int32) → Nat × Nat × (Nat → Int32)
  | 0, b, q, f => (b, q, f)
  | m + 1, b, q, f => if b ≤ e then du2 z e m (b + z) (q + 1) (upd f q (nI b)) else (b, q, f)
theorem du2_ok (z e : Nat) (hz : 1 ≤ z) : ∀ m b q f, e + 1 ≤ b + m → b ≤ e + z → q ≤ b → (du2 z e m b q f).1 ≤ e + z ∧ e < (du2 z e m b q f).1 ∧ (du2 z e m b q f).2.1 ≤ (du2 z e m b q f).1
  | 0, b, q, f, h1, h2, h3 => ⟨h2, h1, h3⟩
  | m + 1, b, q, f, h1, h2, h3 => by
    unfold du2
    by_cases hc : b ≤ e
    · rw [if_pos hc]
      exact du2_ok z e hz m (b + z) (q + 1) _ (by omega) (by omega) (by omega)
    · rw [if_neg hc]
      exact ⟨h2, by show e < b; omega, h3⟩
def du3 (v : Nat → Nat) (L : Nat) : Nat → Nat → Nat → (Nat → Int32) → Nat × (Nat → Int32)
  | 0, _, q, f => (q, f)
  | m + 1, b, q, f => if b < L then
      du3 v L m (du2 ((du1 v L b (L - (b + 1)) b (b + 1)).2 - (du1 v L b (L - (b + 1)) b (b + 1)).1) (du1 v L b (L - (b + 1)) b (b + 1)).1 L b q f).1 (du2 ((du1 v L b (L - (b + 1)) b (b + 1)).2 - (du1 v L b (L - (b + 1)) b (b + 1)).1) (du1 v L b (L - (b + 1)) b (b + 1)).1 L b q f).2.1 (du2 ((du1 v L b (L - (b + 1)) b (b + 1)).2 - (du1 v L b (L - (b + 1)) b (b + 1)).1) (du1 v L b (L - (b + 1)) b (b + 1)).1 L b q f).2.2
    else (q, f)
theorem du3_le (v : Nat → Nat) (L : Nat) : ∀ m b q f, b ≤ L → q ≤ b → (du3 v L m b q f).1 ≤ L
  | 0, b, q, f, h1, h2 => by show q ≤ L; omega
  | m + 1, b, q, f, h1, h2 => by
    unfold du3
    by_cases hc : b < L
    · rw [if_pos hc]
      obtain ⟨a1, a2, a3⟩ := du1_ok v L b (L - (b + 1)) b (b + 1) (by omega) (Nat.le_refl _) (by omega)
      obtain ⟨c1, c2, c3⟩ := du2_ok ((du1 v L b (L - (b + 1)) b (b + 1)).2 - (du1 v L b (L - (b + 1)) b (b + 1)).1) (du1 v L b (L - (b + 1)) b (b + 1)).1 (by omega) L b q f (by omega) (by omega) h2
      exact du3_le v L m _ _ _ (by omega) c3
    · rw [if_neg hc]
      show q ≤ L
      omega
section PA
variable {G : gx} {h : ah}
theorem C_divide {p L P : Nat} {it pb : Nat → Int32} {v : Nat → Nat} (hL : L ≤ 200) (g36 : h 36 = (0, .inl [.ref 37, .int (nI P)])) (g37 : h 37 = aI 200 pb) (gi : h (p + 2) = aI 200 it) (hp : p ≠ 34 ∧ p ≠ 35) (hv : ∀ j, j < L → it j = nI (v j) ∧ v j < 20000) {d : Nat} : Ct G mX0_divide d 0 0 [.ref 36, .ref (p + 2), .int (nI L)] h (fun r h2 => r = some (.int (nI (du3 v L L 0 0 pb).1)) ∧ h2 36 = (0, .inl [.ref 37, .int (nI (if 0 < (du3 v L L 0 0 pb).1 then (du3 v L L 0 0 pb).1 else P))]) ∧ h2 37 = aI 200 (du3 v L L 0 0 pb).2 ∧ Fr [36, 37] h h2) := by
  generalize hR : du3 v L L 0 0 pb = R
  generalize hQ : (fun (r : Option Value) (h2 : ah) => r = some (.int (nI R.1)) ∧ h2 36 = (0, .inl [.ref 37, .int (nI (if 0 < R.1 then R.1 else P))]) ∧ h2 37 = aI 200 R.2 ∧ Fr [36, 37] h h2) = Q
  have hR1 : R.1 ≤ L := by rw [← hR]; exact du3_le v L L 0 0 pb (Nat.zero_le _) (Nat.le_refl _)
  have fin : ∀ q (f : Nat → Int32) (hh : ah), (q, f) = R → hh 36 = (0, .inl [.ref 37, .int (nI P)]) → hh 37 = aI 200 f → Fr [37] h hh → (nI q ≤ 0 → Q (some (.int (nI q))) hh) ∧ (¬ nI q ≤ 0 → Q (some (.int (nI q))) (va_up hh 36 (0, .inl [.ref 37, .int (nI q)]))) := by
    intro q f hh hq k36 k37 kf
    have e1 : R.1 = q := by rw [← hq]
    have e2 : R.2 = f := by rw [← hq]
    refine ⟨fun e => ?_, fun e => ?_⟩
    · have hq0 : ¬ 0 < q := fun z => absurd e (nI_nle z (by omega))
      rw [← hQ]
      refine ⟨by rw [e1], by rw [e1, if_neg hq0]; exact k36, by rw [e2]; exact k37, kf.mono (by decide)⟩
    · have hq0 : 0 < q := Nat.pos_of_ne_zero (fun z => e (by rw [z]; decide))
      rw [← hQ]
      refine ⟨by rw [e1], by rw [e1, if_pos hq0]; exact up_s _ _ _, by rw [e2]; exact (up_n _ _ (by decide)).trans k37, (kf.mono (by decide)).up (by decide)⟩
  have out : ∀ m b q (f : Nat → Int32) (hh : ah) (tu : Nat), b ≤ L → q ≤ b → tu ≤ b → L ≤ b + m → du3 v L m b q f = R → hh 36 = (0, .inl [.ref 37, .int (nI P)]) → hh 37 = aI 200 f → Fr [37] h hh → V G mX0_divide (b0 d) 8 [some (.ref 36), some (.ref (p + 2)), some (.int (nI L)), some (.int (nI q)), some (.int (nI b)), some (.int (nI tu))] [] hh Q := by
    intro m
    induction m with
    | zero =>
      intro b q f hh tu hb hq htu hm hr k36 k37 kf
      have hbL : b = L := by omega
      obtain ⟨f1, f2⟩ := fin q f hh hr k36 k37 kf
      refine tX0_divide_8 k36 (fun _ => f1) (fun _ => f2) (fun _ _ => f1) (fun _ _ => f2) (fun _ e => absurd (nI_le (by omega) (by omega)) e)
    | succ m ih =>
      intro b q f hh tu hb hq htu hm hr k36 k37 kf
      by_cases hc : b < L
      · unfold du3 at hr
        rw [if_pos hc] at hr
        generalize hR1 : du1 v L b (L - (b + 1)) b (b + 1) = R1 at hr
        have hok := du1_ok v L b (L - (b + 1)) b (b + 1) (by omega) (Nat.le_refl _) (by omega)
        rw [hR1] at hok
        obtain ⟨a1, a2, a3⟩ := hok
        refine tX0_divide_8 k36 (fun e => absurd e (nI_ge (by omega) (by omega))) (fun e => absurd e (nI_ge (by omega) (by omega))) (fun _ e => absurd e (nI_ge (by omega) (by omega))) (fun _ e => absurd e (nI_ge (by omega) (by omega))) (fun _ _ => ?_)
        have gi2 : hh (p + 2) = aI 200 it := (kf (p + 2) (by simp; omega)).trans gi
        have mark : ∀ m2 b2 q2 (f2 : Nat → Int32) (h3 : ah), R1.1 + 1 ≤ b2 + m2 → b2 ≤ R1.1 + (R1.2 - R1.1) → q2 ≤ b2 → tu + 1 ≤ b2 ∨ b2 ≤ R1.1 → du3 v L m (du2 (R1.2 - R1.1) R1.1 m2 b2 q2 f2).1 (du2 (R1.2 - R1.1) R1.1 m2 b2 q2 f2).2.1 (du2 (R1.2 - R1.1) R1.1 m2 b2 q2 f2).2.2 = R → L ≤ b2 + m ∨ b2 ≤ R1.1 → b ≤ b2 → h3 36 = (0, .inl [.ref 37, .int (nI P)]) → h3 37 = aI 200 f2 → Fr [37] h h3 → V G mX0_divide (b0 d) 82 [some (.ref 36), some (.ref (p + 2)), some (.int (nI L)), some (.int (nI q2)), some (.int (nI b2)), some (.int (nI tu)), some (.int (nI R1.1)), some (.int (nI R1.2)), some (.int (nI R1.2 - nI R1.1))] [] h3 Q := by
          intro m2
          induction m2 with
          | zero =>
            intro b2 q2 f2 h3 c1 c2 c3 c4 c5 c6 c7 c36 c37 cf
            refine tX0_divide_82 c36 c37 (fun _ => ?_) (fun e => absurd (nI_lt (by omega) (by omega)) e) (fun e => absurd (nI_lt (by omega) (by omega)) e) (fun e => absurd (nI_lt (by omega) (by omega)) e)
            rw [nI_1]
            exact ih b2 q2 f2 h3 (tu + 1) (by omega) c3 (by omega) (by omega) c5 c36 c37 cf
          | succ m2 ih2 =>
            intro b2 q2 f2 h3 c1 c2 c3 c4 c5 c6 c7 c36 c37 cf
            by_cases hc2 : b2 ≤ R1.1
            · unfold du2 at c5
              rw [if_pos hc2] at c5
              refine tX0_divide_82 c36 c37 (fun e => absurd e (nI_nlt hc2 (by omega))) (fun _ e => absurd e (nI_ge (by omega) (by omega))) (fun _ _ => vp_in_nI (by omega) (by decide)) (fun _ _ => ?_)
              rw [nI_clamp (by omega), nI_1, pk_sub (by omega), nI_add, ← pk_sub (by omega)]
              exact ih2 (b2 + (R1.2 - R1.1)) (q2 + 1) _ _ (by omega) (by omega) (by omega) (by omega) c5 (by omega) (by omega) ((up_n _ _ (by decide)).trans c36) (up_s _ _ _) (cf.up (by decide))
            · unfold du2 at c5
              rw [if_neg hc2] at c5
              refine tX0_divide_82 c36 c37 (fun _ => ?_) (fun e => absurd (nI_lt (by omega) (by omega)) e) (fun e => absurd (nI_lt (by omega) (by omega)) e) (fun e => absurd (nI_lt (by omega) (by omega)) e)
              rw [nI_1]
              exact ih b2 q2 f2 h3 (tu + 1) (by omega) c3 (by omega) (by omega) c5 c36 c37 cf
        have read : ∀ m2 e a, a + m2 = L → b ≤ e → e < a → du1 v L b m2 e a = R1 → V G mX0_divide (b0 d) 30 [some (.ref 36), some (.ref (p + 2)), some (.int (nI L)), some (.int (nI q)), some (.int (nI b)), some (.int (nI tu)), some (.int (nI e)), some (.int (nI a))] [] hh Q := by
          have done : ∀ e a, (e, a) = R1 → V G mX0_divide (b0 d) 82 [some (.ref 36), some (.ref (p + 2)), some (.int (nI L)), some (.int (nI q)), some (.int (nI b)), some (.int (nI tu)), some (.int (nI e)), some (.int (nI a)), some (.int (nI a - nI e))] [] hh Q := by
            intro e a hea
            have e1 : e = R1.1 := by rw [← hea]
            have e2 : a = R1.2 := by rw [← hea]
            rw [e1, e2]
            exact mark L b q f hh (by omega) (by omega) hq (Or.inr a1) hr (Or.inr a1) (Nat.le_refl _) k36 k37 kf
          intro m2
          induction m2 with
          | zero =>
            intro e a h1 h2 h3 h4
            exact tX0_divide_30 gi2 (fun _ => done e a h4) (fun z => absurd (nI_le (by omega) (by omega)) z) (fun z => absurd (nI_le (by omega) (by omega)) z) (fun z => absurd (nI_le (by omega) (by omega)) z) (fun z => absurd (nI_le (by omega) (by omega)) z) (fun z => absurd (nI_le (by omega) (by omega)) z) (fun z => absurd (nI_le (by omega) (by omega)) z) (fun z => absurd (nI_le (by omega) (by omega)) z)
          | succ m2 ih2 =>
            intro e a h1 h2 h3 h4
            have ce : it (nI e).toNatClampNeg = nI (v e) := by rw [nI_clamp (by omega), (hv e (by omega)).1]
            have ca : it (nI a).toNatClampNeg = nI (v a) := by rw [nI_clamp (by omega), (hv a (by omega)).1]
            have le := (hv e (by omega)).2
            have la := (hv a (by omega)).2
            unfold du1 at h4
            refine tX0_divide_30 gi2 (fun z => absurd z (nI_ge (by omega) (by omega))) (fun _ => vp_in_nI (by omega) (by decide)) (fun _ => vp_in_nI (by omega) (by decide)) (fun _ z => ?_) (fun _ _ => vp_in_nI (by omega) (by decide)) (fun _ _ => vp_in_nI (by omega) (by decide)) (fun _ z1 z2 => ?_) (fun _ z1 z2 => ?_)
            · rw [ce, ca, nI_ltI (by omega) (by omega)] at z
              rw [if_neg (by omega)] at h4
              exact done e a h4
            · rw [ce, ca, nI_ltI (by omega) (by omega)] at z1
              rw [ce, ca, nI_leI (by omega) (by omega)] at z2
              rw [if_pos (by omega), if_neg (by omega)] at h4
              rw [nI_1, nI_1]
              exact ih2 (e + 1) (a + 1) (by omega) (by omega) (by omega) h4
            · rw [ce, ca, nI_ltI (by omega) (by omega)] at z1
              rw [ce, ca, nI_leI (by omega) (by omega)] at z2
              rw [if_pos (by omega), if_pos (by omega)] at h4
              rw [nI_1]
              exact ih2 b (a + 1) (by omega) (by omega) (by omega) h4
        rw [nI_1]
        exact read (L - (b + 1)) b (b + 1) (by omega) (Nat.le_refl _) (by omega) hR1
      · unfold du3 at hr
        rw [if_neg hc] at hr
        obtain ⟨f1, f2⟩ := fin q f hh hr k36 k37 kf
        exact tX0_divide_8 k36 (fun _ => f1) (fun _ => f2) (fun _ _ => f1) (fun _ _ => f2) (fun _ e => absurd (nI_le (by omega) (by omega)) e)
  refine Ct_of (by decide +kernel) (Nat.le_of_ble_eq_true rfl) (tX0_divide_0 ?_)
  exact out L 0 0 pb h 0 (Nat.zero_le _) (Nat.le_refl _) (Nat.le_refl _) (by omega) hR g36 g37 Fr.rf
end PA
section XP
variable {G : gx} {h : ah} {k n : Nat} {f l : Int32} {tp : Nat → Option Nat}
theorem X_parts_no (g2 : h 2 = cX f l) (g23 : h 23 = (4, .inr (4, .inr (.inr tp)))) {x : Int32} (hb : x < 0 ∨ 4 ≤ x) : Ct G mX7_parts 2 0 0 [.ref 2, .int x] h (Rv (.int (-2)) h) := by
  refine Ct_of (by decide +kernel) (Nat.le_of_ble_eq_true rfl) (tX7_parts_0 ?_)
  refine cX7_parts_1 (C_isTape (d := 0) _) ⟨by decide, by decide⟩ (Nat.le_of_ble_eq_true rfl) ⟨Nat.le_refl _, Nat.le_refl _⟩ (fun r h2 e => ?_)
  obtain ⟨rfl, e⟩ := e; replace e := e.symm; subst e
  exact tX7_parts_4 (ta := 0) g2 g23 (fun e => absurd ((z01 _).mpr hb) e) (fun e => absurd ((z01 _).mpr hb) e) (fun e => absurd ((z01 _).mpr hb) e) (fun _ => ⟨rfl, rfl⟩)
theorem X_parts {t L P : Nat} {fm : Int32} {it pb : Nat → Int32} (ok : okW k n) (g2 : h 2 = cX f l) (g3 : h 3 = cW k n) (g23 : h 23 = (4, .inr (4, .inr (.inr tp)))) (htp : isTp tp) (ht : t < 4) (hL : L ≤ 200) (gt : h (3 * t + 22 + 2) = cTt t fm (nI L)) (gi : h (3 * t + 23 + 2) = aI 200 it) (g36 : h 36 = (0, .inl [.ref 37, .int (nI P)])) (g37 : h 37 = aI 200 pb) : Ct G mX7_parts 2 0 0 [.ref 2, .int (nI t)] h (fun r h2 => if fm = -1 then r = some (.int (-11)) ∧ h2 = va_up h 2 (cX f 1) else if ab k it 0 L = false then r = some (.int (-3)) ∧ h2 = h else ∃ R, R = du3 (fun q => (it q).toNatClampNeg) L L 0 0 pb ∧ r = some (.int (nI R.1)) ∧ h2 36 = (0, .inl [.ref 37, .int (nI (if 0 < R.1 then R.1 else P))]) ∧ h2 37 = aI 200 R.2 ∧ Fr [36, 37] h h2) := by
  have hk5 := ok.2.1
  refine Ct_of (by decide +kernel) (Nat.le_of_ble_eq_true rfl) (tX7_parts_0 ?_)
  refine cX7_parts_1 (C_isTape (d := 0) _) ⟨by decide, by decide⟩ (Nat.le_of_ble_eq_true rfl) ⟨Nat.le_refl _, Nat.le_refl _⟩ (fun r h2 e => ?_)
  obtain ⟨rfl, e⟩ := e; replace e := e.symm; subst e
  refine tX7_parts_4 (ta := 3 * t + 22) g2 g23 (fun _ => vp_in_nI ht (by decide)) (fun _ => by rw [nI_clamp (by omega)]; exact htp t ht) (fun _ => ?_) (fun e => absurd ((z01 _).mp e) (t4_no ht))
  refine cX7_parts_18 (C_isLost gt (d := 0)) gt ⟨by decide, by decide⟩ (Nat.le_of_ble_eq_true rfl) ⟨Nat.le_refl _, Nat.le_refl _⟩ (fun r h3 e => ?_)
  obtain ⟨rfl, e⟩ := e; replace e := e.symm; subst e
  refine tX7_parts_21 (fun e1 => ?_) (fun e1 => ?_)
  · have hfm : ¬ fm = -1 := fun q => by rw [if_pos q] at e1; exact absurd e1 (by decide)
    simp only [if_neg hfm]
    refine cX7_parts_31 (C_hasBlanks g3 hL gt gi) gt ⟨by decide, by decide⟩ (Nat.le_of_ble_eq_true rfl) ⟨Nat.le_refl _, Nat.le_refl _⟩ (fun r h4 e => ?_)
    obtain ⟨rfl, e⟩ := e; replace e := e.symm; subst e
    refine tX7_parts_34 g2 gt (fun e3 => ?_) (fun e3 => ?_)
    · rw [s10] at e3
      have hc : ¬ ab k it 0 L = false := fun q => by rw [e3] at q; exact absurd q (by decide)
      simp only [if_neg hc]
      have hv := ab_val (by omega) e3
      refine cX7_parts_54 (k := 34) (C_divide (p := 3 * t + 23) (v := fun q => (it q).toNatClampNeg) hL g36 g37 gi (by omega) (fun j hj => by have := hv j hj; rw [Nat.zero_add] at this; exact ⟨this.1, by omega⟩) (d := 0)) g36 ⟨by decide, by decide⟩ (Nat.le_of_ble_eq_true rfl) ⟨Nat.le_refl _, Nat.le_refl _⟩ (fun r h5 e => ?_)
      obtain ⟨rfl, e⟩ := e
      exact tX7_parts_57 ⟨_, rfl, rfl, e⟩
    · rw [s10] at e3
      rw [if_pos (by cases hb : ab k it 0 L <;> simp_all)]
      exact ⟨rfl, rfl⟩
  · have hfm : fm = -1 := Decidable.not_not.mp (fun q => e1 (by rw [if_neg q]))
    refine cX7_parts_26 (k := 0) (C_finding g2 _ (d := 0)) g2 ⟨by decide, by decide⟩ (Nat.le_of_ble_eq_true rfl) ⟨Nat.le_refl _, Nat.le_refl _⟩ (fun r h5 e3 => ?_)
    obtain ⟨rfl, e3⟩ := e3; replace e3 := e3.symm; subst e3
    refine tX7_parts_29 ?_
    rw [if_pos hfm]
    exact ⟨by rw [show (-10 : Int32) - 1 = -11 by decide], rfl⟩
end XP
section MPA
variable {G : gx} {h : ah} {k n : Nat} {s mx mc mw ml mf mg : Int32} {fs sz it pb : Nat → Int32}
theorem M_parts_no {mp : Int32} (g42 : h 42 = cM (nI k) (nI n) (nI (k ^ n)) s mx mc mw ml mf mp mg) {x : Int32} (hb : x < 0 ∨ 4 ≤ x) : Ct G mX8_parts 2 0 0 [.ref 42, .int x] h (Rv (.int (-2)) h) := by
  refine Ct_of (by decide +kernel) (Nat.le_of_ble_eq_true rfl) (tX8_parts_0 ?_)
  refine cX8_parts_1 (M_isTape _) ⟨by decide, by decide⟩ (Nat.le_of_ble_eq_true rfl) ⟨Nat.le_refl _, Nat.le_refl _⟩ (fun r h2 e => ?_)
  obtain ⟨rfl, e⟩ := e; replace e := e.symm; subst e
  exact tX8_parts_4 (fun e => absurd ((z01 _).mpr hb) e) (fun _ => ⟨rfl, rfl⟩)
theorem M_parts {t L P : Nat} (ok : okW k n) (g42 : h 42 = cM (nI k) (nI n) (nI (k ^ n)) s mx mc mw ml mf (nI P) mg) (g55 : h 55 = aI 4 fs) (g56 : h 56 = aI 4 sz) (g57 : h 57 = aI 800 it) (g59 : h 59 = aI 200 pb) (ht : t < 4) (hL : L ≤ 200) (hneg : 0 ≤ fs t ↔ ¬ fs t = -1) (hsz : sz t = nI L) : Ct G mX8_parts 2 0 0 [.ref 42, .int (nI t)] h (fun r h2 => if fs t = -1 then r = some (.int (-11)) ∧ h2 = va_up h 42 (cM (nI k) (nI n) (nI (k ^ n)) s mx mc mw 1 mf (nI P) mg) else if ab k it (200 * t) L = false then r = some (.int (-3)) ∧ h2 = h else ∃ R, R = du3 (fun q => (it (200 * t + q)).toNatClampNeg) L L 0 0 pb ∧ r = some (.int (nI R.1)) ∧ h2 42 = cM (nI k) (nI n) (nI (k ^ n)) s mx mc mw ml mf (nI (if 0 < R.1 then R.1 else P)) mg ∧ h2 59 = aI 200 R.2 ∧ Fr [42, 59] h h2) := by
  have hk5 := ok.2.1
  have hk0 := ok.1
  have ct : (nI t).toNatClampNeg = t := nI_clamp (by omega)
  refine Ct_of (by decide +kernel) (Nat.le_of_ble_eq_true rfl) (tX8_parts_0 ?_)
  refine cX8_parts_1 (M_isTape _) ⟨by decide, by decide⟩ (Nat.le_of_ble_eq_true rfl) ⟨Nat.le_refl _, Nat.le_refl _⟩ (fun r h2 e => ?_)
  obtain ⟨rfl, e⟩ := e; replace e := e.symm; subst e
  refine tX8_parts_4 (fun _ => ?_) (fun e => absurd ((z01 _).mp e) (t4_no ht))
  refine cX8_parts_12 (k := 40) (M_noLetters ⟨by omega, by omega⟩ g42 g55 g56 g57 ht hL hneg hsz) g42 ⟨by decide, by decide⟩ (Nat.le_of_ble_eq_true rfl) ⟨Nat.le_refl _, Nat.le_refl _⟩ (fun r h3 e => ?_)
  by_cases hfm : fs t = -1
  · rw [if_pos hfm] at e
    obtain ⟨rfl, e⟩ := e; replace e := e.symm; subst e
    refine tX8_parts_15 (h := va_up h 42 (cM (nI k) (nI n) (nI (k ^ n)) s mx mc mw 1 mf (nI P) mg)) (up_s _ _ _) ((up_n _ _ (by decide)).trans g56) (fun e => absurd e (by decide)) (fun e => absurd e (by decide)) (fun _ => ?_)
    rw [if_pos hfm]
    exact ⟨rfl, rfl⟩
  · rw [if_neg hfm] at e
    obtain ⟨rfl, e⟩ := e; replace e := e.symm; subst e
    simp only [if_neg hfm]
    cases hb : ab k it (200 * t) L with
    | false =>
      refine tX8_parts_15 g42 g56 (fun e => absurd e (by decide)) (fun e => absurd e (by decide)) (fun _ => ?_)
      rw [if_pos rfl]
      exact ⟨rfl, rfl⟩
    | true =>
      refine tX8_parts_15 g42 g56 (fun _ => vp_in_nI ht (by decide)) (fun _ => ?_) (fun e => absurd rfl e)
      have hcf : ¬ true = false := by decide
      simp only [if_neg hcf]
      rw [ct, hsz]
      have hv0 := ab_val (k := k) (by omega) hb
      generalize hvv : (fun q => (it (200 * t + q)).toNatClampNeg) = v
      have hv : ∀ j, j < L → it (200 * t + j) = nI (v j) ∧ v j < 20000 := fun j hj => by
        have := hv0 j hj
        rw [← hvv]
        exact ⟨this.1, by show (it (200 * t + j)).toNatClampNeg < 20000; omega⟩
      generalize hR : du3 v L L 0 0 pb = R
      generalize hQ : (fun (r : Option Value) (h2 : ah) => ∃ R2, R2 = R ∧ r = some (.int (nI R2.1)) ∧ h2 42 = cM (nI k) (nI n) (nI (k ^ n)) s mx mc mw ml mf (nI (if 0 < R2.1 then R2.1 else P)) mg ∧ h2 59 = aI 200 R2.2 ∧ Fr [42, 59] h h2) = Q
      have hR1 : R.1 ≤ L := by rw [← hR]; exact du3_le v L L 0 0 pb (Nat.zero_le _) (Nat.le_refl _)
      have fin : ∀ q (f : Nat → Int32) (hh : ah), (q, f) = R → hh 59 = aI 200 f → Fr [59] h hh → (nI q ≤ 0 → Q (some (.int (nI q))) (va_up hh 42 (cM (nI k) (nI n) (nI (k ^ n)) s mx mc mw ml mf (nI P) mg))) ∧ (¬ nI q ≤ 0 → Q (some (.int (nI q))) (va_up hh 42 (cM (nI k) (nI n) (nI (k ^ n)) s mx mc mw ml mf (nI q) mg))) := by
        intro q f hh hq k59 kf
        have e1 : R.1 = q := by rw [← hq]
        have e2 : R.2 = f := by rw [← hq]
        refine ⟨fun e => ?_, fun e => ?_⟩
        · have hq0 : ¬ 0 < q := fun z => absurd e (nI_nle z (by omega))
          rw [← hQ]
          exact ⟨R, rfl, by rw [e1], by rw [e1, if_neg hq0]; exact up_s _ _ _, by rw [e2]; exact (up_n _ _ (by decide)).trans k59, (kf.mono (by decide)).up (by decide)⟩
        · have hq0 : 0 < q := Nat.pos_of_ne_zero (fun z => e (by rw [z]; decide))
          rw [← hQ]
          exact ⟨R, rfl, by rw [e1], by rw [e1, if_pos hq0]; exact up_s _ _ _, by rw [e2]; exact (up_n _ _ (by decide)).trans k59, (kf.mono (by decide)).up (by decide)⟩
      have out : ∀ m b q (f : Nat → Int32) (hh : ah), b ≤ L → q ≤ b → L ≤ b + m → du3 v L m b q f = R → hh 59 = aI 200 f → Fr [59] h hh → V G mX8_parts (b0 2) 35 [some (.ref 42), some (.int (nI t)), some (.int (if true = true then 0 else -3)), some (.int (nI L)), some (.int (nI q)), some (.int (nI b))] [] hh Q := by
        intro m
        induction m with
        | zero =>
          intro b q f hh hb hq hm hr k59 kf
          obtain ⟨f1, f2⟩ := fin q f hh hr k59 kf
          exact tX8_parts_35 ((kf 42 (by decide)).trans g42) (fun _ => f1) (fun _ => f2) (fun e => absurd (nI_le (by omega) (by omega)) e)
        | succ m ih =>
          intro b q f hh hb hq hm hr k59 kf
          have k42 := (kf 42 (by decide)).trans g42
          have k57 := (kf 57 (by decide)).trans g57
          by_cases hc : b < L
          · unfold du3 at hr
            rw [if_pos hc] at hr
            generalize hR1 : du1 v L b (L - (b + 1)) b (b + 1) = R1 at hr
            have hok := du1_ok v L b (L - (b + 1)) b (b + 1) (by omega) (Nat.le_refl _) (by omega)
            rw [hR1] at hok
            obtain ⟨a1, a2, a3⟩ := hok
            refine tX8_parts_35 k42 (fun e => absurd e (nI_ge (by omega) (by omega))) (fun e => absurd e (nI_ge (by omega) (by omega))) (fun _ => ?_)
            have mark : ∀ m2 b2 q2 (f2 : Nat → Int32) (h3 : ah), R1.1 + 1 ≤ b2 + m2 → b2 ≤ R1.1 + (R1.2 - R1.1) → q2 ≤ b2 → du3 v L m (du2 (R1.2 - R1.1) R1.1 m2 b2 q2 f2).1 (du2 (R1.2 - R1.1) R1.1 m2 b2 q2 f2).2.1 (du2 (R1.2 - R1.1) R1.1 m2 b2 q2 f2).2.2 = R → b ≤ b2 → h3 59 = aI 200 f2 → Fr [59] h h3 → V G mX8_parts (b0 2) 132 [some (.ref 42), some (.int (nI t)), some (.int (if true = true then 0 else -3)), some (.int (nI L)), some (.int (nI q2)), some (.int (nI b2)), some (.int (nI R1.2)), some (.int (nI R1.1))] [] h3 Q := by
              intro m2
              induction m2 with
              | zero =>
                intro b2 q2 f2 h3 c1 c2 c3 c5 c7 c59 cf
                refine tX8_parts_132 ((cf 42 (by decide)).trans g42) c59 (fun _ => ?_) (fun e => absurd (nI_lt (by omega) (by omega)) e) (fun e => absurd (nI_lt (by omega) (by omega)) e)
                exact ih b2 q2 f2 h3 (by omega) c3 (by omega) c5 c59 cf
              | succ m2 ih2 =>
                intro b2 q2 f2 h3 c1 c2 c3 c5 c7 c59 cf
                by_cases hc2 : b2 ≤ R1.1
                · unfold du2 at c5
                  rw [if_pos hc2] at c5
                  refine tX8_parts_132 ((cf 42 (by decide)).trans g42) c59 (fun e => absurd e (nI_nlt hc2 (by omega))) (fun _ => vp_in_nI (by omega) (by decide)) (fun _ => ?_)
                  rw [nI_clamp (by omega), nI_1, pk_sub (by omega), nI_add]
                  exact ih2 (b2 + (R1.2 - R1.1)) (q2 + 1) _ _ (by omega) (by omega) (by omega) c5 (by omega) (up_s _ _ _) (cf.up (by decide))
                · unfold du2 at c5
                  rw [if_neg hc2] at c5
                  refine tX8_parts_132 ((cf 42 (by decide)).trans g42) c59 (fun _ => ?_) (fun e => absurd (nI_lt (by omega) (by omega)) e) (fun e => absurd (nI_lt (by omega) (by omega)) e)
                  exact ih b2 q2 f2 h3 (by omega) c3 (by omega) c5 c59 cf
            have read : ∀ m2 e a, a + m2 = L → b ≤ e → e < a → du1 v L b m2 e a = R1 → V G mX8_parts (b0 2) 51 [some (.ref 42), some (.int (nI t)), some (.int (if true = true then 0 else -3)), some (.int (nI L)), some (.int (nI q)), some (.int (nI b)), some (.int (nI a)), some (.int (nI e))] [] hh Q := by
              have done : ∀ e a, (e, a) = R1 → V G mX8_parts (b0 2) 132 [some (.ref 42), some (.int (nI t)), some (.int (if true = true then 0 else -3)), some (.int (nI L)), some (.int (nI q)), some (.int (nI b)), some (.int (nI a)), some (.int (nI e))] [] hh Q := by
                intro e a hea
                have e1 : e = R1.1 := by rw [← hea]
                have e2 : a = R1.2 := by rw [← hea]
                rw [e1, e2]
                exact mark L b q f hh (by omega) (by omega) hq hr (Nat.le_refl _) k59 kf
              intro m2
              induction m2 with
              | zero =>
                intro e a h1 h2 h3 h4
                exact tX8_parts_51 k42 k57 (fun _ => done e a h4) (fun z => absurd (nI_le (by omega) (by omega)) z) (fun z => absurd (nI_le (by omega) (by omega)) z) (fun z => absurd (nI_le (by omega) (by omega)) z) (fun z => absurd (nI_le (by omega) (by omega)) z) (fun z => absurd (nI_le (by omega) (by omega)) z) (fun z => absurd (nI_le (by omega) (by omega)) z) (fun z => absurd (nI_le (by omega) (by omega)) z)
              | succ m2 ih2 =>
                intro e a h1 h2 h3 h4
                have ce : it (((200 : Int32) * nI t) + nI e).toNatClampNeg = nI (v e) := by rw [ix_200, nI_clamp (by omega), (hv e (by omega)).1]
                have ca : it (((200 : Int32) * nI t) + nI a).toNatClampNeg = nI (v a) := by rw [ix_200, nI_clamp (by omega), (hv a (by omega)).1]
                have le := (hv e (by omega)).2
                have la := (hv a (by omega)).2
                have ve : vp_in (((200 : Int32) * nI t) + nI e) 800 := by rw [ix_200]; exact vp_in_nI (by omega) (by decide)
                have va : vp_in (((200 : Int32) * nI t) + nI a) 800 := by rw [ix_200]; exact vp_in_nI (by omega) (by decide)
                unfold du1 at h4
                refine tX8_parts_51 k42 k57 (fun z => absurd z (nI_ge (by omega) (by omega))) (fun _ => ve) (fun _ => va) (fun _ z => ?_) (fun _ _ => ve) (fun _ _ => va) (fun _ z1 z2 => ?_) (fun _ z1 z2 => ?_)
                · rw [ce, ca, nI_ltI (by omega) (by omega)] at z
                  rw [if_neg (by omega)] at h4
                  exact done e a h4
                · rw [ce, ca, nI_ltI (by omega) (by omega)] at z1
                  rw [ce, ca, nI_leI (by omega) (by omega)] at z2
                  rw [if_pos (by omega), if_neg (by omega)] at h4
                  rw [nI_1, nI_1]
                  exact ih2 (e + 1) (a + 1) (by omega) (by omega) (by omega) h4
                · rw [ce, ca, nI_ltI (by omega) (by omega)] at z1
                  rw [ce, ca, nI_leI (by omega) (by omega)] at z2
                  rw [if_pos (by omega), if_pos (by omega)] at h4
                  rw [nI_1]
                  exact ih2 b (a + 1) (by omega) (by omega) (by omega) h4
            rw [nI_1]
            exact read (L - (b + 1)) b (b + 1) (by omega) (Nat.le_refl _) (by omega) hR1
          · unfold du3 at hr
            rw [if_neg hc] at hr
            obtain ⟨f1, f2⟩ := fin q f hh hr k59 kf
            exact tX8_parts_35 k42 (fun _ => f1) (fun _ => f2) (fun e => absurd (nI_le (by omega) (by omega)) e)
      exact out L 0 0 pb h (Nat.zero_le _) (Nat.le_refl _) (by omega) hR g59 Fr.rf
end MPA
