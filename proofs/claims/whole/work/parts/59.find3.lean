/-! find: the two answers -/
theorem f_pick1 {x : Int32} (h : ¬ (x < 1 ∨ 40 < x)) : ∃ m, 1 ≤ m ∧ m ≤ 40 ∧ x = nI m := c_pick (P := 40) (by decide) h
theorem f_pick0 {x : Int32} (h : ¬ (x < 0 ∨ 40 < x)) : ∃ m, m ≤ 40 ∧ x = nI m := nI_of2 (M := 40) (n := 40) (by decide) (fun q => h (Or.inl q)) (Int32.not_lt.mp (fun q => h (Or.inr q)))
abbrev fbad (x1 x3 x4 : Int32) : Prop := (x1 < 0 ∨ 4 ≤ x1) ∨ (x3 < 1 ∨ 40 < x3) ∨ (x4 < 0 ∨ 40 < x4)
section XF
variable {G : gx} {h : ah} {k n : Nat} {f l : Int32} {tp : Nat → Option Nat}
theorem X_find_no {kd fm : Int32} (g2 : h 2 = cX f l) (g17 : h 17 = cO kd fm) (g23 : h 23 = (4, .inr (4, .inr (.inr tp)))) {x1 x2 x3 x4 : Int32} (hb : fbad x1 x3 x4 ∨ kd = -1) : Ct G mX7_find 3 0 0 [.ref 2, .int x1, .int x2, .int x3, .int x4] h (Rv (.int (if fbad x1 x3 x4 then -2 else -3)) h) := by
  refine Ct_of (by decide +kernel) (Nat.le_of_ble_eq_true rfl) (tX7_find_0 ?_)
  refine cX7_find_1 (C_isTape (d := 0) _) ⟨by decide, by decide⟩ (Nat.le_of_ble_eq_true rfl) ⟨Nat.le_refl _, Nat.le_refl _⟩ (fun r h2 e => ?_)
  obtain ⟨rfl, e⟩ := e; replace e := e.symm; subst e
  refine tX7_find_4 g2 (fun e => ⟨by rw [if_pos (Or.inl ((z01 _).mp e))], rfl⟩) (fun _ e => ⟨by rw [if_pos (Or.inr (Or.inl (Or.inl e)))], rfl⟩) (fun _ _ e => ⟨by rw [if_pos (Or.inr (Or.inl (Or.inr e)))], rfl⟩) (fun _ _ _ e => ⟨by rw [if_pos (Or.inr (Or.inr (Or.inl e)))], rfl⟩) (fun e1 e2 e3 e4 e5 => ?_) (fun _ _ _ _ e => ⟨by rw [if_pos (Or.inr (Or.inr (Or.inr (Int32.not_le.mp e))))], rfl⟩)
  have hn : ¬ fbad x1 x3 x4 := fun q => q.elim (fun q => e1 ((z01 _).mpr q)) (fun q => q.elim (fun q => q.elim e2 e3) (fun q => q.elim e4 (fun q => Int32.not_lt.mpr e5 q)))
  have hk := hb.resolve_left hn
  refine cX7_find_37 (k := 15) (C_isThere g17 (d := 0)) g17 ⟨by decide, by decide⟩ (Nat.le_of_ble_eq_true rfl) ⟨Nat.le_refl _, Nat.le_refl _⟩ (fun r h2 e => ?_)
  obtain ⟨rfl, e⟩ := e; replace e := e.symm; subst e
  exact tX7_find_40 (ta := 0) g2 g23 (fun e => absurd (by rw [if_pos hk]) e) (fun e => absurd (by rw [if_pos hk]) e) (fun e => absurd (by rw [if_pos hk]) e) (fun _ => ⟨by rw [if_neg hn], rfl⟩)
theorem X_find {kd fm2 : Int32} {t L m s : Nat} {fm x2 : Int32} {rl it : Nat → Int32} {rr : Nat → Nat} {sl st : Nat → Int64} {S : Nat → Nat → Bool} (ok : okW k n) (g2 : h 2 = cX f l) (g3 : h 3 = cW k n) (g17 : h 17 = cO kd fm2) (g18 : h 18 = aB 20000 rl) (hr : ∀ j, j < k ^ n → rl j = nI (rr j) ∧ rr j < k) (g21 : h 21 = aJ 5 sl) (g22 : h 22 = aJ 5 st) (hkd : ¬ kd = -1) (g23 : h 23 = (4, .inr (4, .inr (.inr tp)))) (htp : isTp tp) (ht : t < 4) (hL : L ≤ 200) (gt : h (3 * t + 22 + 2) = cTt t fm (nI L)) (gi : h (3 * t + 23 + 2) = aI 200 it) (hm1 : 1 ≤ m) (hm : m ≤ 40) (hs : s ≤ 40) (hS : ∀ p b, b < m → so1 k it x2.toNatClampNeg (rr ((p + b) % k ^ n)) b = S p b) : Ct G mX7_find 3 0 0 [.ref 2, .int (nI t), .int x2, .int (nI m), .int (nI s)] h (fun r h2 => if fm = -1 then r = some (.int (-11)) ∧ h2 = va_up h 2 (cX f 1) else if wi L x2 (nI m) then r = some (.int (-12)) ∧ h2 = va_up h 2 (cX f 2) else r = some (.int (nI (fmc S m s (k ^ n)))) ∧ h2 2 = cX (fmf S m s f (k ^ n)) l ∧ (∃ a, h2 17 = cO kd a) ∧ (∃ s2, h2 21 = aJ 5 s2) ∧ (∃ s2, h2 22 = aJ 5 s2) ∧ Fr [2, 17, 21, 22] h h2) := by
  have hN := ok.le (Nat.le_refl n)
  have e0 := t4_no ht
  refine Ct_of (by decide +kernel) (Nat.le_of_ble_eq_true rfl) (tX7_find_0 ?_)
  refine cX7_find_1 (C_isTape (d := 0) _) ⟨by decide, by decide⟩ (Nat.le_of_ble_eq_true rfl) ⟨Nat.le_refl _, Nat.le_refl _⟩ (fun r h2 e => ?_)
  obtain ⟨rfl, e⟩ := e; replace e := e.symm; subst e
  refine tX7_find_4 g2 (fun e => absurd ((z01 _).mp e) e0) (fun _ e => absurd e (nI_nlt (b := 1) hm1 (by omega))) (fun _ _ e => absurd e (nI_nlt (a := 40) hm (by omega))) (fun _ _ _ e => absurd e (nI_pos (by omega))) (fun _ _ _ _ _ => ?_) (fun _ _ _ _ e => absurd (nI_le (b := 40) hs (by decide)) e)
  refine cX7_find_37 (k := 15) (C_isThere g17 (d := 0)) g17 ⟨by decide, by decide⟩ (Nat.le_of_ble_eq_true rfl) ⟨Nat.le_refl _, Nat.le_refl _⟩ (fun r h2 e => ?_)
  obtain ⟨rfl, e⟩ := e; replace e := e.symm; subst e
  refine tX7_find_40 (ta := 3 * t + 22) g2 g23 (fun _ => vp_in_nI ht (by decide)) (fun _ => by rw [nI_clamp (by omega)]; exact htp t ht) (fun _ => ?_) (fun e => absurd e (by rw [if_neg hkd]; decide))
  refine cX7_find_52 (C_isLost gt (d := 0)) gt ⟨by decide, by decide⟩ (Nat.le_of_ble_eq_true rfl) ⟨Nat.le_refl _, Nat.le_refl _⟩ (fun r h3 e => ?_)
  obtain ⟨rfl, e⟩ := e; replace e := e.symm; subst e
  refine tX7_find_55 (ta := 3 * t + 22) g2 g23 (fun _ => vp_in_nI ht (by decide)) (fun _ => by rw [nI_clamp (by omega)]; exact htp t ht) (fun e => ?_) (fun e => ?_)
  · have hfm : ¬ fm = -1 := fun q => by rw [if_pos q] at e; exact absurd e (by decide)
    simp only [if_neg hfm]
    refine cX7_find_72 (C_hasItems gt x2 (nI m) (d := 0)) gt ⟨by decide, by decide⟩ (Nat.le_of_ble_eq_true rfl) ⟨Nat.le_refl _, Nat.le_refl _⟩ (fun r h4 e2 => ?_)
    obtain ⟨rfl, e2⟩ := e2; replace e2 := e2.symm; subst e2
    refine tX7_find_75 (ta := 3 * t + 22) g2 g23 gt (fun _ => vp_in_nI ht (by decide)) (fun _ => by rw [nI_clamp (by omega)]; exact htp t ht) (fun e2 => ?_) (fun e2 => ?_)
    · have hw : ¬ wi L x2 (nI m) := fun q => e2 ((z01 _).mpr q)
      simp only [if_neg hw]
      obtain ⟨i, m2, him, rfl, hmm⟩ := wi_pick hL hw
      have hmm2 : m2 < 2 ^ 31 := by omega
      have hmm3 : m = m2 := (nI_eq (by omega) (by omega)).mp hmm
      subst hmm3
      rw [nI_clamp (by omega)] at hS
      refine cX7_find_101 (k := 15) (C_countMatches (c := 3 * t + 23) ok g3 g17 g18 hr g21 g22 gi (by omega) (by omega) hm1 hm hs hS) g17 ⟨by decide, by decide⟩ (Nat.le_of_ble_eq_true rfl) ⟨Nat.le_refl _, Nat.le_refl _⟩ (fun r h5 e3 => ?_)
      obtain ⟨rfl, k17, k21, k22, kf⟩ := e3
      have k2 := (kf 2 (by decide)).trans g2
      have hle := fmc_le S m s (k ^ n)
      refine tX7_find_104 k2 k17 (fun e => ?_) (fun e => ?_)
      · have h0 : fmc S m s (k ^ n) = 0 := Decidable.byContradiction (fun z => absurd e (nI_nle (Nat.pos_of_ne_zero z) (by omega)))
        exact ⟨rfl, by rw [fmf_0 _ h0]; exact k2, ⟨_, k17⟩, k21, k22, kf.mono (by decide)⟩
      · have h0 : 0 < fmc S m s (k ^ n) := Nat.pos_of_ne_zero (fun z => e (by rw [z]; decide))
        obtain ⟨a1, a2⟩ := k21
        obtain ⟨b1, b2⟩ := k22
        refine ⟨rfl, ?_, ⟨_, (up_n _ _ (by decide)).trans k17⟩, ⟨a1, (up_n _ _ (by decide)).trans a2⟩, ⟨b1, (up_n _ _ (by decide)).trans b2⟩, (kf.mono (by decide)).up (by decide)⟩
        rw [up_s, fmf_u (f := fm2) (g := f) _ h0]
    · have hw : wi L x2 (nI m) := (z01 _).mp e2
      refine cX7_find_80 (k := 0) (C_finding g2 _ (d := 0)) g2 ⟨by decide, by decide⟩ (Nat.le_of_ble_eq_true rfl) ⟨Nat.le_refl _, Nat.le_refl _⟩ (fun r h5 e3 => ?_)
      obtain ⟨rfl, e3⟩ := e3; replace e3 := e3.symm; subst e3
      refine tX7_find_83 ?_
      rw [if_pos hw]
      exact ⟨by rw [show (-10 : Int32) - 2 = -12 by decide], rfl⟩
  · have hfm : fm = -1 := Decidable.not_not.mp (fun q => e (by rw [if_neg q]))
    refine cX7_find_60 (k := 0) (C_finding g2 _ (d := 0)) g2 ⟨by decide, by decide⟩ (Nat.le_of_ble_eq_true rfl) ⟨Nat.le_refl _, Nat.le_refl _⟩ (fun r h5 e3 => ?_)
    obtain ⟨rfl, e3⟩ := e3; replace e3 := e3.symm; subst e3
    refine tX7_find_63 ?_
    rw [if_pos hfm]
    exact ⟨by rw [show (-10 : Int32) - 1 = -11 by decide], rfl⟩
end XF
section MF
variable {G : gx} {h : ah} {k n : Nat} {s mx mc mw ml mf mp mg : Int32} {fs sz it rl : Nat → Int32}
theorem i64_a (a b : Int32) (a2 b2 : Int64) (ha : a2 = a.toInt64) (hb : b2 = b.toInt64) (x : Int32) : (x.toInt64 < a2 ∨ b2 < x.toInt64) ↔ (x < a ∨ b < x) := by
  subst ha hb
  exact i64_r a b x
theorem M_find_no (g42 : h 42 = cM (nI k) (nI n) (nI (k ^ n)) s mx mc mw ml mf mp mg) (g55 : h 55 = aI 4 fs) {x1 x2 x3 x4 : Int32} (hb : fbad x1 x3 x4 ∨ mw = -1) : Ct G mX8_find 2 0 0 [.ref 42, .int x1, .int x2, .int x3, .int x4] h (Rv (.int (if fbad x1 x3 x4 then -2 else -3)) h) := by
  refine Ct_of (by decide +kernel) (Nat.le_of_ble_eq_true rfl) (tX8_find_0 ?_)
  refine cX8_find_1 (M_isTape _) ⟨by decide, by decide⟩ (Nat.le_of_ble_eq_true rfl) ⟨Nat.le_refl _, Nat.le_refl _⟩ (fun r h2 e => ?_)
  obtain ⟨rfl, e⟩ := e; replace e := e.symm; subst e
  refine tX8_find_4 (fun e => ⟨by rw [if_pos (Or.inl ((z01 _).mp e))], rfl⟩) (fun e1 => ?_)
  refine cX8_find_13 (C_in (d := 0) _ _ _) ⟨by decide, by decide⟩ (Nat.le_of_ble_eq_true rfl) ⟨Nat.le_refl _, Nat.le_refl _⟩ (fun r h2 e => ?_)
  obtain ⟨rfl, e⟩ := e; replace e := e.symm; subst e
  have h3 := i64_a 1 40 1 40 (by decide) (by decide) x3
  have h4 := i64_a 0 40 0 40 (by decide) (by decide) x4
  refine tX8_find_16 (fun e => ⟨by rw [if_pos (Or.inr (Or.inl (h3.mp ((z01 _).mp e))))], rfl⟩) (fun e2 => ?_)
  refine cX8_find_26 (C_in (d := 0) _ _ _) ⟨by decide, by decide⟩ (Nat.le_of_ble_eq_true rfl) ⟨Nat.le_refl _, Nat.le_refl _⟩ (fun r h2 e => ?_)
  obtain ⟨rfl, e⟩ := e; replace e := e.symm; subst e
  have key : ∀ q : Prop, ¬ (if x4.toInt64 < (0 : Int64) ∨ (40 : Int64) < x4.toInt64 then (0 : Int32) else 1) = 0 → ¬ mw = -1 → q := fun q e3 e5 => by
    rcases hb with (a | a | a) | a
    · exact absurd ((z01 _).mpr a) e1
    · exact absurd ((z01 _).mpr (h3.mpr a)) e2
    · exact absurd ((z01 _).mpr (h4.mpr a)) e3
    · exact absurd a e5
  refine tX8_find_29 g42 g55 (fun a b => key _ a b) (fun a b => key _ a b) (fun a b => key _ a b) (fun e3 _ => ⟨?_, rfl⟩) (fun e => ⟨by rw [if_pos (Or.inr (Or.inr (h4.mp ((z01 _).mp e))))], rfl⟩)
  rw [if_neg (fun q => q.elim (fun q => e1 ((z01 _).mpr q)) (fun q => q.elim (fun q => e2 ((z01 _).mpr (h3.mpr q))) (fun q => e3 ((z01 _).mpr (h4.mpr q)))))]
theorem M_find {t L m sp : Nat} {x2 : Int32} {rr : Nat → Nat} {S : Nat → Nat → Bool} (ok : okW k n) (g42 : h 42 = cM (nI k) (nI n) (nI (k ^ n)) s mx mc mw ml mf mp mg) (g53 : h 53 = aI 20000 rl) (hr : ∀ j, j < k ^ n → rl j = nI (rr j) ∧ rr j < k) (g55 : h 55 = aI 4 fs) (g56 : h 56 = aI 4 sz) (g57 : h 57 = aI 800 it) (hmw : ¬ mw = -1) (ht : t < 4) (hL : L ≤ 200) (hneg : 0 ≤ fs t ↔ ¬ fs t = -1) (hsz : sz t = nI L) (hm1 : 1 ≤ m) (hm : m ≤ 40) (hs : sp ≤ 40) (hS : ∀ p b, b < m → so1 k it (200 * t + x2.toNatClampNeg) (rr ((p + b) % k ^ n)) b = S p b) : Ct G mX8_find 2 0 0 [.ref 42, .int (nI t), .int x2, .int (nI m), .int (nI sp)] h (fun r h2 => if fs t = -1 then r = some (.int (-11)) ∧ h2 = va_up h 42 (cM (nI k) (nI n) (nI (k ^ n)) s mx mc mw 1 mf mp mg) else if wi L x2 (nI m) then r = some (.int (-12)) ∧ h2 = va_up h 42 (cM (nI k) (nI n) (nI (k ^ n)) s mx mc mw 2 mf mp mg) else r = some (.int (nI (fmc S m sp (k ^ n)))) ∧ h2 42 = cM (nI k) (nI n) (nI (k ^ n)) s mx mc mw ml (fmf S m sp mf (k ^ n)) mp mg ∧ Fr [42] h h2) := by
  have hN := ok.le (Nat.le_refl n)
  have hk5 := ok.2.1
  have hk0 := ok.pos
  have h0 := ok.pp n
  have ct : (nI t).toNatClampNeg = t := nI_clamp (by omega)
  have h3 := i64_a 1 40 1 40 (by decide) (by decide) (nI m)
  have h4 := i64_a 0 40 0 40 (by decide) (by decide) (nI sp)
  have n3 : ¬ (nI m < 1 ∨ 40 < nI m) := fun q => q.elim (nI_nlt (b := 1) hm1 (by omega)) (nI_nlt (a := 40) hm (by omega))
  have n4 : ¬ (nI sp < 0 ∨ 40 < nI sp) := fun q => q.elim (nI_pos (by omega)) (nI_nlt (a := 40) hs (by omega))
  refine Ct_of (by decide +kernel) (Nat.le_of_ble_eq_true rfl) (tX8_find_0 ?_)
  refine cX8_find_1 (M_isTape _) ⟨by decide, by decide⟩ (Nat.le_of_ble_eq_true rfl) ⟨Nat.le_refl _, Nat.le_refl _⟩ (fun r h2 e => ?_)
  obtain ⟨rfl, e⟩ := e; replace e := e.symm; subst e
  refine tX8_find_4 (fun e => absurd ((z01 _).mp e) (t4_no ht)) (fun _ => ?_)
  refine cX8_find_13 (C_in (d := 0) _ _ _) ⟨by decide, by decide⟩ (Nat.le_of_ble_eq_true rfl) ⟨Nat.le_refl _, Nat.le_refl _⟩ (fun r h2 e => ?_)
  obtain ⟨rfl, e⟩ := e; replace e := e.symm; subst e
  refine tX8_find_16 (fun e => absurd (h3.mp ((z01 _).mp e)) n3) (fun e2 => ?_)
  refine cX8_find_26 (C_in (d := 0) _ _ _) ⟨by decide, by decide⟩ (Nat.le_of_ble_eq_true rfl) ⟨Nat.le_refl _, Nat.le_refl _⟩ (fun r h2 e => ?_)
  obtain ⟨rfl, e⟩ := e; replace e := e.symm; subst e
  refine tX8_find_29 g42 g55 (fun _ _ => vp_in_nI ht (by decide)) (fun _ _ e => ?_) (fun _ _ e => ?_) (fun _ e => absurd e hmw) (fun e => absurd (h4.mp ((z01 _).mp e)) n4)
  · rw [ct] at e
    have hfm := hneg.mp e
    simp only [if_neg hfm]
    refine cX8_find_65 (k := 40) (M_isWithin g42 g56 ht hL hsz (d := 0)) g42 ⟨by decide, by decide⟩ (Nat.le_of_ble_eq_true rfl) ⟨Nat.le_refl _, Nat.le_refl _⟩ (fun r h5 e2 => ?_)
    obtain ⟨rfl, e2⟩ := e2; replace e2 := e2.symm; subst e2
    refine tX8_find_68 (fun e2 => ?_) (fun e2 => ?_)
    · have hw : ¬ wi L x2 (nI m) := fun q => e2 ((z01 _).mpr q)
      simp only [if_neg hw]
      obtain ⟨i, m2, him, rfl, hmm⟩ := wi_pick hL hw
      have hmm3 : m = m2 := (nI_eq (by omega) (by omega)).mp hmm
      subst hmm3
      rw [nI_clamp (by omega)] at hS
      generalize hQ : (fun (r : Option Value) (h2 : ah) => r = some (.int (nI (fmc S m sp (k ^ n)))) ∧ h2 42 = cM (nI k) (nI n) (nI (k ^ n)) s mx mc mw ml (fmf S m sp mf (k ^ n)) mp mg ∧ Fr [42] h h2) = Q
      have out : ∀ q p (hh : ah), p + q = k ^ n → hh 42 = cM (nI k) (nI n) (nI (k ^ n)) s mx mc mw ml (fmf S m sp mf p) mp mg → Fr [42] h hh → V G mX8_find (b0 2) 83 [some (.ref 42), some (.int (nI t)), some (.int (nI i)), some (.int (nI m)), some (.int (nI sp)), some (.int (nI (fmc S m sp p))), some (.int (nI p))] [] hh Q := by
        intro q
        induction q with
        | zero =>
          intro p hh hp c42 cf
          refine tX8_find_83 c42 (fun _ => ?_) (fun e => absurd (nI_le (by omega) (by omega)) e)
          have hpN : p = k ^ n := by omega
          rw [← hQ]
          exact ⟨by rw [hpN], by rw [← congrArg (fmf S m sp mf) hpN]; exact c42, cf⟩
        | succ q ih =>
          intro p hh hp c42 cf
          have hle := fmc_le S m sp p
          refine tX8_find_83 c42 (fun e => absurd e (nI_ge (by omega) (by omega))) (fun _ => ?_)
          have c57 := (cf 57 (by decide)).trans g57
          have c53 := (cf 53 (by decide)).trans g53
          have inn : ∀ q2 b, b + q2 = m → V G mX8_find (b0 2) 98 [some (.ref 42), some (.int (nI t)), some (.int (nI i)), some (.int (nI m)), some (.int (nI sp)), some (.int (nI (fmc S m sp p))), some (.int (nI p)), some (.int (nI (cs (S p) b))), some (.int (nI b))] [] hh Q := by
            intro q2
            induction q2 with
            | zero =>
              intro b hb
              have hbm : b = m := by omega
              have hcl := cs_le (S p) m
              rw [hbm]
              refine tX8_find_98 c42 c57 (fun _ e => ?_) (fun _ e1 e2 => ?_) (fun _ e1 e2 => ?_) (fun e => absurd (nI_le (by omega) (by omega)) e) (fun e => absurd (nI_le (by omega) (by omega)) e)
              · rw [nI_ltI (by omega) (by omega)] at e
                have u1 : fmc S m sp (p + 1) = fmc S m sp p := by show fmc S m sp p + (if cs (S p) m ≤ sp then 1 else 0) = _; rw [if_neg (by omega)]; rfl
                have u2 : fmf S m sp mf (p + 1) = fmf S m sp mf p := if_neg (fun z => absurd z.1 (by omega))
                rw [nI_1]
                have := ih (p + 1) hh (by omega) (by rw [u2]; exact c42) cf
                rw [u1] at this
                exact this
              · rw [nI_ltI (by omega) (by omega)] at e1
                have hne : ¬ fmc S m sp p = 0 := fun z => e2 (by rw [z]; exact nI_0)
                have u1 : fmc S m sp (p + 1) = fmc S m sp p + 1 := by show fmc S m sp p + (if cs (S p) m ≤ sp then 1 else 0) = _; rw [if_pos (by omega)]
                have u2 : fmf S m sp mf (p + 1) = fmf S m sp mf p := if_neg (fun z => absurd z.2 hne)
                rw [nI_1, nI_1]
                have := ih (p + 1) _ (by omega) (by rw [u2]; exact up_s hh 42 _) (cf.up (by decide))
                rw [u1] at this
                exact this
              · rw [nI_ltI (by omega) (by omega)] at e1
                have hne : fmc S m sp p = 0 := (nI_eq (by omega) (by omega)).mp (e2.trans nI_0.symm)
                have u1 : fmc S m sp (p + 1) = fmc S m sp p + 1 := by show fmc S m sp p + (if cs (S p) m ≤ sp then 1 else 0) = _; rw [if_pos (by omega)]
                have u2 : fmf S m sp mf (p + 1) = nI p := if_pos ⟨by omega, hne⟩
                rw [nI_1, nI_1]
                have := ih (p + 1) _ (by omega) (by rw [u2]; exact up_s hh 42 _) (cf.up (by decide))
                rw [u1] at this
                exact this
            | succ q2 ih2 =>
              intro b hb
              have hmd := Nat.mod_lt (p + b) h0
              obtain ⟨hr1, hr2⟩ := hr _ hmd
              have hcl := cs_le (S p) b
              have ei : (((200 : Int32) * nI t) + nI i) + nI b = nI (200 * t + i + b) := by rw [ix_200, nI_add]
              have em : (nI p + nI b) - (nI p + nI b) / nI (k ^ n) * nI (k ^ n) = nI ((p + b) % k ^ n) := by rw [nI_add, pk_rem (by omega) h0 (by omega)]
              refine tX8_find_98 c42 c57 (fun e => absurd e (nI_ge (by omega) (by omega))) (fun e => absurd e (nI_ge (by omega) (by omega))) (fun e => absurd e (nI_ge (by omega) (by omega))) (fun _ => by rw [ei]; exact vp_in_nI (by omega) (by decide)) (fun _ => ?_)
              rw [ei, nI_clamp (by omega)]
              refine cX8_find_134 (C_in (d := 0) _ _ _) ⟨by decide, by decide⟩ (Nat.le_of_ble_eq_true rfl) ⟨Nat.le_refl _, Nat.le_refl _⟩ (fun r h6 e => ?_)
              obtain ⟨rfl, e⟩ := e; replace e := e.symm; subst e
              have hx := in_w0 (a := k) (by omega) (it (200 * t + i + b))
              have hSb := hS p b (by omega)
              have n0 : ∀ c : Nat, nI c + (0 : Int32) = nI (c + 0) := fun c => nI_add c 0
              have ecs : cs (S p) (b + 1) = cs (S p) b + (S p b).toNat := rfl
              refine tX8_find_137 c42 c53 (fun e => ?_) (fun _ => nI_n0 h0 hN) (fun _ => by rw [em]; exact vp_in_nI (by omega) (by decide)) (fun e1 e2 => ?_) (fun e1 e2 => ?_)
              · have hs0 : S p b = false := by
                  rw [← hSb, so1, isL, decide_eq_false (fun z => z (hx.mp ((z01 _).mp e)))]
                  rfl
                rw [nI_1, n0]
                have := ih2 (b + 1) (by omega)
                rw [ecs, hs0] at this
                exact this
              · rw [em, nI_clamp (by omega), hr1] at e2
                have hs0 : S p b = false := by
                  rw [← hSb, so1, e2, decide_eq_true rfl]
                  simp
                rw [nI_1, n0]
                have := ih2 (b + 1) (by omega)
                rw [ecs, hs0] at this
                exact this
              · rw [em, nI_clamp (by omega), hr1] at e2
                have hs0 : S p b = true := by
                  rw [← hSb, so1, isL, decide_eq_true (p := ¬ (it (200 * t + i + b) < 0 ∨ nI k ≤ it (200 * t + i + b))) (fun z => e1 ((z01 _).mpr (hx.mpr z))), decide_eq_false (p := nI (rr ((p + b) % k ^ n)) = it (200 * t + i + b)) (fun z => e2 z.symm)]
                  rfl
                rw [nI_1, nI_1]
                have := ih2 (b + 1) (by omega)
                rw [ecs, hs0] at this
                exact this
          exact inn m 0 (by omega)
      exact out (k ^ n) 0 h (by omega) g42 Fr.rf
    · have hw : wi L x2 (nI m) := (z01 _).mp e2
      refine cX8_find_73 (k := 40) (M_met g42 2 (d := 0)) g42 ⟨by decide, by decide⟩ (Nat.le_of_ble_eq_true rfl) ⟨Nat.le_refl _, Nat.le_refl _⟩ (fun r h5 e3 => ?_)
      obtain ⟨rfl, e3⟩ := e3; replace e3 := e3.symm; subst e3
      refine tX8_find_76 ?_
      rw [if_pos hw]
      exact ⟨by rw [show (-10 : Int32) - 2 = -12 by decide], rfl⟩
  · rw [ct] at e
    have hfm : fs t = -1 := Decidable.not_not.mp (fun q => e (hneg.mpr q))
    refine cX8_find_57 (k := 40) (M_met g42 1 (d := 0)) g42 ⟨by decide, by decide⟩ (Nat.le_of_ble_eq_true rfl) ⟨Nat.le_refl _, Nat.le_refl _⟩ (fun r h5 e3 => ?_)
    obtain ⟨rfl, e3⟩ := e3; replace e3 := e3.symm; subst e3
    refine tX8_find_60 ?_
    rw [if_pos hfm]
    exact ⟨by rw [show (-10 : Int32) - 1 = -11 by decide], rfl⟩
end MF
