/-! ring -/
theorem nI_any {x : Int32} (h : ¬ x < 0) : ∃ R, R < 2147483648 ∧ x = nI R := by
  have h0 : (0 : Int) ≤ x.toInt := by
    have := Int32.not_lt.mp h
    rw [Int32.le_iff_toInt_le] at this
    exact this
  have h1 := Int32.toInt_lt x
  obtain ⟨s, hs, e⟩ := nI_of2 (M := x) (n := x.toInt.toNat) (Int.toNat_of_nonneg h0).symm h (Int32.le_refl x)
  exact ⟨s, by omega, e⟩
section RING
variable {G : gx} {h : ah} {k n : Nat}
theorem rgs_s (t : Nat) : rgs k n (t + 1) = rgs k n t + (decide (lo k n t = t)).toNat := rfl
theorem C_leastOfRing {r : Nat} {o pp pw : Nat → Int32} (ok : okW k n) (g3 : h 3 = cW k n) (g4 : h 4 = aI 15 pw) (hp : isP k n pw) (g5 : h 5 = cK5) (g6 : h 6 = aI 14 o) (g7 : h 7 = aI 15 pp) (hr : r < rgs k n (k ^ n)) : Ct G mX3_leastOfRing 5 0 0 [.ref 5, .int (nI r)] h (fun q h2 => (∃ w, w < k ^ n ∧ rgs k n w = r ∧ lo k n w = w ∧ q = some (.int (nI w))) ∧ (∃ a, h2 6 = aI 14 a) ∧ (∃ a, h2 7 = aI 15 a) ∧ Fr [6, 7] h h2) := by
  have hN := ok.le (Nat.le_refl n)
  have hN0 := ok.pp n
  have hrN := rgs_le (k := k) (n := n) (k ^ n)
  generalize hQ : (fun (q : Option Value) (h2 : ah) => (∃ w, w < k ^ n ∧ rgs k n w = r ∧ lo k n w = w ∧ q = some (.int (nI w))) ∧ (∃ a, h2 6 = aI 14 a) ∧ (∃ a, h2 7 = aI 15 a) ∧ Fr [6, 7] h h2) = Q
  have key : ∀ m a b i (hh : ah), b - a ≤ m → a ≤ b → b < k ^ n → i + (b - a) < k ^ n → rgs k n a ≤ r → r < rgs k n (b + 1) → (∃ a, hh 6 = aI 14 a) → (∃ a, hh 7 = aI 15 a) → Fr [6, 7] h hh → V G mX3_leastOfRing (b0 5) 15 [some (.ref 5), some (.int (nI r)), some (.int (nI a)), some (.int (nI b)), some (.int (nI i))] [] hh Q := by
    intro m
    induction m with
    | zero =>
      intro a b i hh hm hab hb hi h1 h2 c6 c7 cf
      have hba : b = a := by omega
      rw [hba] at h2
      have hl : lo k n a = a := Classical.byContradiction (fun q => by
        rw [rgs_s, decide_eq_false q] at h2
        have h3 : r < rgs k n a := h2
        omega)
      have hra : rgs k n a = r := by
        rw [rgs_s, decide_eq_true hl] at h2
        have h3 : r < rgs k n a + 1 := h2
        omega
      have fin1 : Q (some (.int (nI a))) hh := by rw [← hQ]; exact ⟨⟨a, by omega, hra, hl, rfl⟩, c6, c7, cf⟩
      have kle : nI b ≤ nI a := nI_le (by omega) (by omega)
      exact tX3_leastOfRing_15 (fun _ => fin1) (fun _ _ => fin1) (fun _ z => absurd kle z) (fun _ z => absurd kle z)
    | succ m ih =>
      intro a b i hh hm hab hb hi h1 h2 c6 c7 cf
      by_cases hba : b = a
      · exact ih a b i hh (by omega) hab hb hi h1 h2 c6 c7 cf
      · have nle : ¬ nI 20000 ≤ nI i := nI_ge (by omega) (by omega)
        have c5 := (cf 5 (by decide)).trans g5
        have c3 := (cf 3 (by decide)).trans g3
        have c4 := (cf 4 (by decide)).trans g4
        refine tX3_leastOfRing_15 (fun z => absurd z nle) (fun _ z => absurd z (nI_ge (by omega) (by omega))) (fun _ _ => by decide) (fun _ _ => ?_)
        have em : (nI a + nI b) / (2 : Int32) = nI ((a + b) / 2) := by rw [nI_add]; exact pk_div (a := a + b) (d := 2) (by omega) (by omega) (by omega)
        rw [em]
        have hm1 : a ≤ (a + b) / 2 := by omega
        have hm2 : (a + b) / 2 < b := by omega
        generalize (a + b) / 2 = c at hm1 hm2
        obtain ⟨a6, c6⟩ := c6
        obtain ⟨a7, c7⟩ := c7
        have hC := C_ringsUpTo (G := G) (v := c + 1) ok c3 c4 hp c5 c6 c7 (by omega)
        rw [show nI (c + 1) - (1 : Int32) = nI c from nI_pred c] at hC
        refine cX3_leastOfRing_38 (k := 3) hC c5 ⟨by decide, by decide⟩ (Nat.le_of_ble_eq_true rfl) ⟨Nat.le_refl _, Nat.le_refl _⟩ (fun q h3 e => ?_)
        obtain ⟨rfl, d6, d7, df⟩ := e
        have hrc := rgs_le (k := k) (n := n) (c + 1)
        refine tX3_leastOfRing_41 (fun z => ?_) (fun z => ?_)
        · rw [nI_leI (by omega) (by omega)] at z
          rw [nI_1, nI_1]
          exact ih (c + 1) b (i + 1) h3 (by omega) (by omega) hb (by omega) z h2 d6 d7 (Fr.tr cf df (by decide))
        · rw [nI_leI (by omega) (by omega)] at z
          rw [nI_1]
          exact ih a c (i + 1) h3 (by omega) (by omega) (by omega) (by omega) h1 (by omega) d6 d7 (Fr.tr cf df (by decide))
  refine Ct_of (by decide +kernel) (Nat.le_of_ble_eq_true rfl) (tX3_leastOfRing_0 g5 g3 ?_)
  rw [show nI (k ^ n) - (1 : Int32) = nI (k ^ n - 1) from pk_sub (a := k ^ n) (b := 1) (by omega)]
  exact key (k ^ n) 0 (k ^ n - 1) 0 h (by omega) (by omega) (by omega) (by omega) (Nat.zero_le _) (by rw [show k ^ n - 1 + 1 = k ^ n by omega]; exact hr) ⟨o, g6⟩ ⟨pp, g7⟩ Fr.rf
/-- what ring answers -/
def rgA (k n : Nat) (x v : Int32) : Prop := (∃ r w, r < rgs k n (k ^ n) ∧ x = nI r ∧ w < k ^ n ∧ rgs k n w = r ∧ lo k n w = w ∧ v = nI w) ∨ (x < 0 ∨ ∃ r, r < 2147483648 ∧ x = nI r ∧ rgs k n (k ^ n) ≤ r) ∧ v = -2
theorem X_ring {o pp pw : Nat → Int32} {f l : Int32} (ok : okW k n) (g2 : h 2 = cX f l) (g3 : h 3 = cW k n) (g4 : h 4 = aI 15 pw) (hp : isP k n pw) (g5 : h 5 = cK5) (g6 : h 6 = aI 14 o) (g7 : h 7 = aI 15 pp) (x : Int32) : Ct G mX7_ring 6 0 0 [.ref 2, .int x] h (fun r h2 => (∃ v, rgA k n x v ∧ r = some (.int v)) ∧ (∃ a, h2 6 = aI 14 a) ∧ (∃ a, h2 7 = aI 15 a) ∧ Fr [6, 7] h h2) := by
  have hN := ok.le (Nat.le_refl n)
  have hrN := rgs_le (k := k) (n := n) (k ^ n)
  refine Ct_of (by decide +kernel) (Nat.le_of_ble_eq_true rfl) (tX7_ring_0 (fun z => ⟨⟨-2, Or.inr ⟨Or.inl z, rfl⟩, rfl⟩, ⟨o, g6⟩, ⟨pp, g7⟩, Fr.rf⟩) (fun z => ?_))
  obtain ⟨r, hr, rfl⟩ := nI_any z
  refine cX7_ring_6 (k := 0) (X_rings ok g2 g3 g4 hp g5 g6 g7) g2 ⟨by decide, by decide⟩ (Nat.le_of_ble_eq_true rfl) ⟨Nat.le_refl _, Nat.le_refl _⟩ (fun q h3 e => ?_)
  obtain ⟨rfl, ⟨a6, d6⟩, ⟨a7, d7⟩, df⟩ := e
  have d5 := (df 5 (by decide)).trans g5
  refine tX7_ring_9 ((df 2 (by decide)).trans g2) (fun z => ?_) (fun z => ?_)
  · have z2 : r < rgs k n (k ^ n) := Nat.lt_of_not_le (fun q => absurd z (nI_nlt q (by omega)))
    refine cX7_ring_22 (k := 3) (C_leastOfRing ok ((df 3 (by decide)).trans g3) ((df 4 (by decide)).trans g4) hp d5 d6 d7 z2) d5 ⟨by decide, by decide⟩ (Nat.le_of_ble_eq_true rfl) ⟨Nat.le_refl _, Nat.le_refl _⟩ (fun q h4 e => ?_)
    obtain ⟨⟨w, w1, w2, w3, rfl⟩, e6, e7, ef⟩ := e
    exact tX7_ring_25 ⟨⟨nI w, Or.inl ⟨r, w, z2, rfl, w1, w2, w3, rfl⟩, rfl⟩, e6, e7, Fr.tr df ef (by decide)⟩
  · have z2 : rgs k n (k ^ n) ≤ r := Nat.le_of_not_lt (fun q => z (nI_lt q (by omega)))
    exact ⟨⟨-2, Or.inr ⟨Or.inr ⟨r, hr, rfl, z2⟩, rfl⟩, rfl⟩, ⟨a6, d6⟩, ⟨a7, d7⟩, df⟩
theorem M_ring {lf : Nat → Int32} {ms mx mc mw ml mf mp mg : Int32} (ok : okW k n) (g42 : h 42 = cM (nI k) (nI n) (nI (k ^ n)) ms mx mc mw ml mf mp mg) (g43 : h 43 = aI 20000 lf) (hlf : ∀ w, w < k ^ n → lf w = nI (lo k n w)) {x v : Int32} (hv : rgA k n x v) : Ct G mX8_ring 1 0 0 [.ref 42, .int x] h (Rv (.int v) h) := by
  have hN := ok.le (Nat.le_refl n)
  have hN0 := ok.pp n
  have hrN := rgs_le (k := k) (n := n) (k ^ n)
  have nle : ∀ t, t < k ^ n → ¬ nI (k ^ n) ≤ nI t := fun t ht => nI_ge ht (by omega)
  have el : ∀ t, t < k ^ n → lf (nI t).toNatClampNeg = nI (lo k n t) := fun t ht => by rw [nI_clamp (by omega), hlf t ht]
  refine Ct_of (by decide +kernel) (Nat.le_of_ble_eq_true rfl) (tX8_ring_0 ?_)
  rcases hv with ⟨r, w, hr, rfl, hw, hrw, hlw, rfl⟩ | ⟨hx | ⟨r, hr, rfl, hrr⟩, rfl⟩
  · have key : ∀ m t, t + m = w → V G mX8_ring (b0 1) 4 [some (.ref 42), some (.int (nI r)), some (.int (nI (r - rgs k n t))), some (.int (nI t))] [] h (Rv (.int (nI w)) h) := by
      intro m
      induction m with
      | zero =>
        intro t ht
        have htw : t = w := by omega
        rw [htw, hrw, Nat.sub_self]
        have np : ¬ nI r < 0 := nI_pos (by omega)
        have e1 : lf (nI w).toNatClampNeg = nI w := by rw [el w hw, hlw]
        refine tX8_ring_4 g42 g43 (fun z => absurd z (nle w hw)) (fun _ z => absurd z np) (fun _ _ => vp_in_nI (by omega) (by decide)) (fun _ _ z => absurd e1 z) (fun _ _ _ z => absurd rfl z) (fun _ _ _ _ => ⟨rfl, rfl⟩)
      | succ m ih =>
        intro t ht
        have ht2 : t < k ^ n := by omega
        have np : ¬ nI r < 0 := nI_pos (by omega)
        have hlo := lo_lt ht2
        have hmo := cs_mono (p := fun w => decide (lo k n w = w)) (t + 1) (w - (t + 1))
        rw [show t + 1 + (w - (t + 1)) = w by omega] at hmo
        have hmo2 : rgs k n (t + 1) ≤ rgs k n w := hmo
        have nx := ih (t + 1) (by omega)
        rw [rgs_s] at nx hmo2
        refine tX8_ring_4 g42 g43 (fun z => absurd z (nle t ht2)) (fun _ z => absurd z np) (fun _ _ => vp_in_nI (by omega) (by decide)) (fun _ _ z => ?_) (fun _ _ z z3 => ?_) (fun _ _ z z3 => ?_)
        · rw [el t ht2, nI_eq (by omega) (by omega)] at z
          rw [decide_eq_false z] at nx
          rw [nI_1]
          exact nx
        · rw [el t ht2, nI_eq (by omega) (by omega)] at z
          rw [decide_eq_true z] at nx hmo2
          have q1 : rgs k n t + 1 ≤ rgs k n w := hmo2
          have q2 : V G mX8_ring (b0 1) 4 [some (.ref 42), some (.int (nI r)), some (.int (nI (r - (rgs k n t + 1)))), some (.int (nI (t + 1)))] [] h (Rv (.int (nI w)) h) := nx
          rw [nI_1, m1_add, show nI (r - rgs k n t) - (1 : Int32) = nI (r - (rgs k n t + 1)) from pk_sub (a := r - rgs k n t) (b := 1) (by omega)]
          exact q2
        · rw [el t ht2, nI_eq (by omega) (by omega)] at z
          rw [decide_eq_true z] at hmo2
          have q1 : rgs k n t + 1 ≤ rgs k n w := hmo2
          have := (nI_eq (b := 0) (by omega) (by omega)).mp z3
          omega
    exact key w 0 (by omega)
  · have x0 : ¬ nI (k ^ n) ≤ 0 := nI_nle hN0 (by omega)
    exact tX8_ring_4 g42 g43 (fun z => absurd z x0) (fun _ _ => ⟨rfl, rfl⟩) (fun _ z => absurd hx z) (fun _ z => absurd hx z) (fun _ z => absurd hx z) (fun _ z => absurd hx z)
  · have key : ∀ m t, t + m = k ^ n → V G mX8_ring (b0 1) 4 [some (.ref 42), some (.int (nI r)), some (.int (nI (r - rgs k n t))), some (.int (nI t))] [] h (Rv (.int (-2)) h) := by
      intro m
      induction m with
      | zero =>
        intro t ht
        have kle : nI (k ^ n) ≤ nI t := nI_le (by omega) (by omega)
        exact tX8_ring_4 g42 g43 (fun _ => ⟨rfl, rfl⟩) (fun z => absurd kle z) (fun z => absurd kle z) (fun z => absurd kle z) (fun z => absurd kle z) (fun z => absurd kle z)
      | succ m ih =>
        intro t ht
        have ht2 : t < k ^ n := by omega
        have np : ¬ nI r < 0 := nI_pos (by omega)
        have hlo := lo_lt ht2
        have hmo := cs_mono (p := fun w => decide (lo k n w = w)) (t + 1) (k ^ n - (t + 1))
        rw [show t + 1 + (k ^ n - (t + 1)) = k ^ n by omega] at hmo
        have hmo2 : rgs k n (t + 1) ≤ rgs k n (k ^ n) := hmo
        have nx := ih (t + 1) (by omega)
        rw [rgs_s] at nx hmo2
        refine tX8_ring_4 g42 g43 (fun z => absurd z (nle t ht2)) (fun _ z => absurd z np) (fun _ _ => vp_in_nI (by omega) (by decide)) (fun _ _ z => ?_) (fun _ _ z z3 => ?_) (fun _ _ z z3 => ?_)
        · rw [el t ht2, nI_eq (by omega) (by omega)] at z
          rw [decide_eq_false z] at nx
          rw [nI_1]
          exact nx
        · rw [el t ht2, nI_eq (by omega) (by omega)] at z
          rw [decide_eq_true z] at nx hmo2
          have q1 : rgs k n t + 1 ≤ rgs k n (k ^ n) := hmo2
          have q2 : V G mX8_ring (b0 1) 4 [some (.ref 42), some (.int (nI r)), some (.int (nI (r - (rgs k n t + 1)))), some (.int (nI (t + 1)))] [] h (Rv (.int (-2)) h) := nx
          rw [nI_1, m1_add, show nI (r - rgs k n t) - (1 : Int32) = nI (r - (rgs k n t + 1)) from pk_sub (a := r - rgs k n t) (b := 1) (by omega)]
          exact q2
        · rw [el t ht2, nI_eq (by omega) (by omega)] at z
          rw [decide_eq_true z] at hmo2
          have q1 : rgs k n t + 1 ≤ rgs k n (k ^ n) := hmo2
          have := (nI_eq (b := 0) (by omega) (by omega)).mp z3
          omega
    exact key (k ^ n) 0 (by omega)
theorem st_ring (hJ : J h) (a1 : Int32) : Sp G J mX7_ring mX8_ring [.int a1] h := by
  obtain ⟨k, n, s, F, T, E, kd, f, l, P, L, mc, hJm⟩ := hJ
  have hJ2 := hJm
  obtain ⟨⟨ok, -⟩, g2, g42, ⟨⟨s1, s2, c, s3, l0, cn, lw, pw, ff, g3, g4, hp, -⟩, -⟩, -, -, -, -, ⟨g5, ⟨o, g6⟩, ⟨pp, g7⟩, -⟩⟩ := hJm
  refine Sp_of g2 (dx := 6) (dm := 1) (by decide) (by decide) (X_ring ok g2 g3 g4 hp g5 g6 g7 a1) (fun r h1 e => ?_)
  obtain ⟨⟨v, hv, rfl⟩, q6, q7, qf⟩ := e
  have hJ3 := hJ2.k67 qf q6 q7
  have hJ4 : J h1 := ⟨k, n, s, F, T, E, kd, f, l, P, L, mc, hJ3⟩
  obtain ⟨-, -, d42, ⟨-, -, ⟨lf, d43, hlf⟩, -⟩, -⟩ := hJ3
  refine ⟨_, _, rfl, d42, Ct.mono (M_ring ok d42 d43 hlf hv) (fun r2 h2 q => ?_)⟩
  obtain ⟨q1, q2⟩ := q
  rw [q2]
  exact ⟨q1, hJ4⟩
end RING
