/-! rings, ringOf -/
section RNG
variable {G : gx} {h : ah} {k n : Nat}
theorem geo_h {P : Nat} (hP : 1 ≤ P) (t : Nat) : geo P t * P + 1 = geo P (t + 1) := by
  have e := geo_eq hP t
  show geo P t * P + 1 = P ^ t + geo P t
  rw [← e]
  have : geo P t * P = geo P t * (P - 1) + geo P t := by rw [← Nat.mul_succ]; congr 1; omega
  omega
theorem C_greatest {d v : Nat} {pw : Nat → Int32} (ok : okW k n) (g3 : h 3 = cW k n) (g4 : h 4 = aI 15 pw) (hp : isP k n pw) (g5 : h 5 = cK5) (hd1 : 1 ≤ d) (hdn : d ≤ n) (hd : n % d = 0) (hv : v < k ^ n) {dp : Nat} : Ct G mX3_greatestRepeated dp 0 0 [.ref 5, .int (nI d), .int (nI v)] h (Rv (.int (nI (v / gg k n d + 1) - 1)) h) := by
  have hn := ok.2.2.2.1
  have hN := ok.le (Nat.le_refl n)
  have hPn := ok.le (show n - d ≤ n by omega)
  have hB := ly_lt ok.pos hv hdn
  have hBg := rp_lt ok hd1 hdn hd hB
  have hBg2 : v / k ^ (n - d) * geo (k ^ d) (n / d) < k ^ n := hBg
  obtain ⟨b1, b2⟩ := gd_b ok hd1 hdn hd hv
  have hq : n / d * d = n := Nat.div_mul_cancel (Nat.dvd_of_mod_eq_zero hd)
  have key : ∀ m t, t + m = n / d → V G mX3_greatestRepeated (b0 dp) 26 [some (.ref 5), some (.int (nI d)), some (.int (nI v)), some (.int (nI (v / k ^ (n - d)))), some (.int (nI (v / k ^ (n - d) * geo (k ^ d) t))), some (.int (nI (t * d)))] [] h (Rv (.int (nI (v / gg k n d + 1) - 1)) h) := by
    intro m
    induction m with
    | zero =>
      intro t ht
      have htn : t = n / d := by omega
      rw [htn, hq]
      have kle : nI n ≤ nI n := nI_le (Nat.le_refl _) (by omega)
      refine tX3_greatestRepeated_26 g5 g3 g4 (fun _ z => ⟨?_, rfl⟩) (fun _ z => ⟨?_, rfl⟩) (fun z => absurd kle z) (fun z => absurd kle z)
      · have z2 : v < v / k ^ (n - d) * gg k n d := Nat.lt_of_not_le (fun q => absurd z (nI_nlt q (by omega)))
        rw [b2 z2]
      · have z2 : v / k ^ (n - d) * gg k n d ≤ v := Nat.le_of_not_lt (fun q => z (nI_lt q (by omega)))
        rw [b1 z2]
        exact congrArg (fun x => some (Value.int x)) (nI_pred _).symm
    | succ m ih =>
      intro t ht
      have htd : t * d < n := by
        have : (t + 1) * d ≤ n / d * d := Nat.mul_le_mul_right _ (by omega)
        rw [Nat.add_mul, Nat.one_mul] at this
        omega
      refine tX3_greatestRepeated_26 g5 g3 g4 (fun z => absurd z (nI_ge htd (by omega))) (fun z => absurd z (nI_ge htd (by omega))) (fun _ => vp_in_nI (by omega) (by decide)) (fun _ => ?_)
      rw [nI_clamp (by omega), hp d hdn, pk_mul, nI_add, nI_add]
      have e1 : v / k ^ (n - d) * geo (k ^ d) t * k ^ d + v / k ^ (n - d) = v / k ^ (n - d) * geo (k ^ d) (t + 1) := by
        rw [← geo_h (ok.pp d), Nat.mul_add, Nat.mul_one, Nat.mul_assoc]
      have e2 : t * d + d = (t + 1) * d := by rw [Nat.add_mul, Nat.one_mul]
      rw [e1, e2]
      exact ih (t + 1) (by omega)
  have e1 : nI n - nI d = nI (n - d) := pk_sub hdn
  have e2 : pw (nI n - nI d).toNatClampNeg = nI (k ^ (n - d)) := by rw [e1, nI_clamp (by omega), hp _ (by omega)]
  refine Ct_of (by decide +kernel) (Nat.le_of_ble_eq_true rfl) (tX3_greatestRepeated_0 g5 g3 g4 (by rw [e1]; exact vp_in_nI (by omega) (by decide)) (by rw [e2]; exact nI_n0 (ok.pp _) hPn) ?_)
  rw [e2, pk_div (by omega) (ok.pp _) (by omega)]
  have := key (n / d) 0 (by omega)
  rw [Nat.zero_mul] at this
  exact this
theorem tot_F : ∀ j, j < 15 → totF j = nI (tot j) := by decide +kernel
theorem cs_mono {p : Nat → Bool} (a : Nat) : ∀ b, cs p a ≤ cs p (a + b)
  | 0 => Nat.le_refl _
  | b + 1 => Nat.le_trans (cs_mono a b) (Nat.le_add_right _ _)
theorem rgs_le (v : Nat) : rgs k n v ≤ v := cs_le _ _
theorem C_ringsUpTo {v : Nat} {o pp pw : Nat → Int32} (ok : okW k n) (g3 : h 3 = cW k n) (g4 : h 4 = aI 15 pw) (hp : isP k n pw) (g5 : h 5 = cK5) (g6 : h 6 = aI 14 o) (g7 : h 7 = aI 15 pp) (hv : v ≤ k ^ n) : Ct G mX3_ringsUpTo 4 0 0 [.ref 5, .int (nI v - 1)] h (fun r h2 => r = some (.int (nI (rgs k n v))) ∧ (∃ a, h2 6 = aI 14 a) ∧ (∃ a, h2 7 = aI 15 a) ∧ Fr [6, 7] h h2) := by
  have hn1 := ok.2.2.1
  have hn := ok.2.2.2.1
  have hN := ok.le (Nat.le_refl n)
  rcases Nat.eq_zero_or_pos v with z | z
  · rw [z]
    exact Ct_of (by decide +kernel) (Nat.le_of_ble_eq_true rfl) (tX3_ringsUpTo_0 (fun q => absurd q (by decide)) (fun _ => ⟨rfl, ⟨o, g6⟩, ⟨pp, g7⟩, Fr.rf⟩))
  · obtain ⟨u, rfl⟩ : ∃ u, v = u + 1 := ⟨v - 1, by omega⟩
    have eu : nI (u + 1) - (1 : Int32) = nI u := nI_pred u
    rw [eu]
    have hbur := bur ok (u + 1) hv
    have hrl := rgs_le (k := k) (n := n) (u + 1)
    generalize hQ : (fun (r : Option Value) (h2 : ah) => r = some (.int (nI (rgs k n (u + 1)))) ∧ (∃ a, h2 6 = aI 14 a) ∧ (∃ a, h2 7 = aI 15 a) ∧ Fr [6, 7] h h2) = Q
    have key : ∀ m q (hh : ah), q + m = n → (∃ a, hh 6 = aI 14 a) → (∃ a, hh 7 = aI 15 a) → Fr [6, 7] h hh → V G mX3_ringsUpTo (b0 4) 10 [some (.ref 5), some (.int (nI u)), some (.int (nI (su (bF k n (u + 1)) q))), some (.int (nI (q + 1)))] [] hh Q := by
      intro m
      induction m with
      | zero =>
        intro q hh hq c6 c7 cf
        have hqn : q = n := by omega
        have klt : nI n < nI (q + 1) := nI_lt (by omega) (by omega)
        refine tX3_ringsUpTo_10 ((cf 5 (by decide)).trans g5) ((cf 3 (by decide)).trans g3) (fun _ => nI_n0 hn1 (by omega)) (fun _ => ?_) (fun z => absurd klt z) (fun z => absurd klt z) (fun z => absurd klt z) (fun z => absurd klt z) (fun z => absurd klt z)
        rw [hqn, hbur, ← hQ]
        have hb : n * rgs k n (u + 1) ≤ 14 * 20000 := Nat.mul_le_mul hn (by omega)
        rw [pk_div (by omega) hn1 (by omega), Nat.mul_div_cancel_left _ hn1]
        exact ⟨rfl, c6, c7, cf⟩
      | succ m ih =>
        intro q hh hq c6 c7 cf
        have c5 := (cf 5 (by decide)).trans g5
        have c3 := (cf 3 (by decide)).trans g3
        have c4 := (cf 4 (by decide)).trans g4
        have nlt : ¬ nI n < nI (q + 1) := nI_nlt (by omega) (by omega)
        have nz : ¬ nI (q + 1) = 0 := nI_n0 (by omega) (by omega)
        have ed : nI n / nI (q + 1) = nI (n / (q + 1)) := pk_div (by omega) (by omega) (by omega)
        have er : nI n - nI n / nI (q + 1) * nI (q + 1) = nI (n % (q + 1)) := pk_rem (by omega) (by omega) (by omega)
        have hm := Nat.mod_lt n (show 0 < q + 1 by omega)
        have hdl := Nat.div_le_self n (q + 1)
        have esu : su (bF k n (u + 1)) (q + 1) = su (bF k n (u + 1)) q + bF k n (u + 1) q := rfl
        have nx := fun hh c6 c7 cf => ih (q + 1) hh (by omega) c6 c7 cf
        rw [esu] at nx
        refine tX3_ringsUpTo_10 c5 c3 (fun z => absurd z nlt) (fun z => absurd z nlt) (fun _ => nz) (fun _ z => ?_) (fun _ _ => nz) (fun _ _ => by rw [ed]; exact vp_in_nI (by omega) (by decide)) (fun _ z => ?_)
        · have z2 : ¬ n % (q + 1) = 0 := fun e => z (by rw [er, e]; rfl)
          have e0 : bF k n (u + 1) q = 0 := by unfold bF; rw [if_neg z2]
          rw [e0, Nat.add_zero] at nx
          rw [nI_1]
          exact nx hh c6 c7 cf
        · rw [er] at z
          have z2 : n % (q + 1) = 0 := (nI_eq (b := 0) (by omega) (by omega)).mp z
          have e0 : bF k n (u + 1) q = tot (n / (q + 1)) * stA k (q + 1) (gd k n (q + 1) (u + 1)) := by unfold bF; rw [if_pos z2]
          have hg := gg_p ok (show 1 ≤ q + 1 by omega) (show q + 1 ≤ n by omega) z2
          rw [gd_s hg] at e0
          rw [e0] at nx
          have hgb : u / gg k n (q + 1) + 1 ≤ k ^ (q + 1) := by
            have : u / gg k n (q + 1) < k ^ (q + 1) := (Nat.div_lt_iff_lt_mul hg).mpr (by
              have e := gg_eq ok z2
              have hp := ok.pp (q + 1)
              have q3 : gg k n (q + 1) * (k ^ (q + 1) - 1) + gg k n (q + 1) = k ^ (q + 1) * gg k n (q + 1) := by
                rw [← Nat.mul_succ, Nat.mul_comm]
                congr 1
                omega
              omega)
            exact this
          obtain ⟨a6, c6⟩ := c6
          obtain ⟨a7, c7⟩ := c7
          rw [ed, nI_clamp (by omega), tot_F _ (by omega)]
          refine cX3_ringsUpTo_52 (k := 3) (C_greatest ok c3 c4 hp c5 (by omega) (by omega) z2 (by omega) (dp := 0)) c5 ⟨by decide, by decide⟩ (Nat.le_of_ble_eq_true rfl) ⟨Nat.le_refl _, Nat.le_refl _⟩ (fun r h3 e => ?_)
          obtain ⟨rfl, e⟩ := e; replace e := e.symm; subst e
          refine cX3_ringsUpTo_55 (k := 3) (C_words ok c3 c4 hp c5 c6 c7 (by omega) (by omega) hgb) c5 ⟨by decide, by decide⟩ (Nat.le_of_ble_eq_true rfl) ⟨Nat.le_refl _, Nat.le_refl _⟩ (fun r h4 e => ?_)
          obtain ⟨rfl, d6, d7, df⟩ := e
          refine tX3_ringsUpTo_58 ?_
          rw [pk_mul, nI_add, nI_1]
          exact nx h4 d6 d7 (Fr.tr cf df (by decide))
    refine Ct_of (by decide +kernel) (Nat.le_of_ble_eq_true rfl) (tX3_ringsUpTo_0 (fun _ => ?_) (fun q => absurd (nI_le (a := 0) (b := u) (Nat.zero_le _) (by omega)) q))
    exact key n 0 h (by omega) ⟨o, g6⟩ ⟨pp, g7⟩ Fr.rf
theorem X_rings {o pp pw : Nat → Int32} {f l : Int32} (ok : okW k n) (g2 : h 2 = cX f l) (g3 : h 3 = cW k n) (g4 : h 4 = aI 15 pw) (hp : isP k n pw) (g5 : h 5 = cK5) (g6 : h 6 = aI 14 o) (g7 : h 7 = aI 15 pp) : Ct G mX7_rings 5 0 0 [.ref 2] h (fun r h2 => r = some (.int (nI (rgs k n (k ^ n)))) ∧ (∃ a, h2 6 = aI 14 a) ∧ (∃ a, h2 7 = aI 15 a) ∧ Fr [6, 7] h h2) := by
  refine Ct_of (by decide +kernel) (Nat.le_of_ble_eq_true rfl) (tX7_rings_0 g2 g3 ?_)
  refine cX7_rings_13 (k := 3) (C_ringsUpTo ok g3 g4 hp g5 g6 g7 (Nat.le_refl _)) g5 ⟨by decide, by decide⟩ (Nat.le_of_ble_eq_true rfl) ⟨Nat.le_refl _, Nat.le_refl _⟩ (fun r h4 q => ?_)
  obtain ⟨rfl, q6, q7, qf⟩ := q
  exact tX7_rings_16 ⟨rfl, q6, q7, qf⟩
theorem X_ringOf {o pp pw : Nat → Int32} {f l : Int32} (ok : okW k n) (g2 : h 2 = cX f l) (g3 : h 3 = cW k n) (g4 : h 4 = aI 15 pw) (hp : isP k n pw) (g5 : h 5 = cK5) (g6 : h 6 = aI 14 o) (g7 : h 7 = aI 15 pp) (x : Int32) : Ct G mX7_ringOf 5 0 0 [.ref 2, .int x] h (fun r h2 => r = some (.int (aw k n (fun w => nI (rgs k n (lo k n w))) x)) ∧ (∃ a, h2 6 = aI 14 a) ∧ (∃ a, h2 7 = aI 15 a) ∧ Fr [6, 7] h h2) := by
  refine Ct_of (by decide +kernel) (Nat.le_of_ble_eq_true rfl) (tX7_ringOf_0 g2 ?_)
  refine cX7_ringOf_5 (k := 1) (C_has g3 x (d := 0)) g3 ⟨by decide, by decide⟩ (Nat.le_of_ble_eq_true rfl) ⟨Nat.le_refl _, Nat.le_refl _⟩ (fun r h3 e => ?_)
  obtain ⟨rfl, e⟩ := e; replace e := e.symm; subst e
  refine tX7_ringOf_8 g2 (fun e => ⟨by rw [aw_no ((z01 _).mp e)], ⟨o, g6⟩, ⟨pp, g7⟩, Fr.rf⟩) (fun e => ?_)
  obtain ⟨w, hw, rfl⟩ := wd_pick ok (fun z => e ((z01 _).mpr z))
  refine cX7_ringOf_20 (k := 1) (C_leastOf ok g3 hw) g3 ⟨by decide, by decide⟩ (Nat.le_of_ble_eq_true rfl) ⟨Nat.le_refl _, Nat.le_refl _⟩ (fun r h3 e => ?_)
  obtain ⟨rfl, e⟩ := e; replace e := e.symm; subst e
  refine tX7_ringOf_23 ?_
  refine cX7_ringOf_25 (k := 3) (C_ringsUpTo ok g3 g4 hp g5 g6 g7 (Nat.le_of_lt (lo_lt hw))) g5 ⟨by decide, by decide⟩ (Nat.le_of_ble_eq_true rfl) ⟨Nat.le_refl _, Nat.le_refl _⟩ (fun r h4 q => ?_)
  obtain ⟨rfl, q6, q7, qf⟩ := q
  exact tX7_ringOf_28 ⟨by rw [aw_w ok _ hw], q6, q7, qf⟩
section MR
variable {lf : Nat → Int32} {ms mx mc mw ml mf mp mg : Int32}
theorem M_rings (ok : okW k n) (g42 : h 42 = cM (nI k) (nI n) (nI (k ^ n)) ms mx mc mw ml mf mp mg) (g43 : h 43 = aI 20000 lf) (hlf : ∀ w, w < k ^ n → lf w = nI (lo k n w)) : Ct G mX8_rings 1 0 0 [.ref 42] h (Rv (.int (nI (rgs k n (k ^ n)))) h) := by
  have hN := ok.le (Nat.le_refl n)
  have key : ∀ m t, t + m = k ^ n → V G mX8_rings (b0 1) 4 [some (.ref 42), some (.int (nI (rgs k n t))), some (.int (nI t))] [] h (Rv (.int (nI (rgs k n (k ^ n)))) h) := by
    intro m
    induction m with
    | zero =>
      intro t ht
      have kle : nI (k ^ n) ≤ nI t := nI_le (by omega) (by omega)
      refine tX8_rings_4 g42 g43 (fun _ => ⟨?_, rfl⟩) (fun z => absurd kle z) (fun z => absurd kle z) (fun z => absurd kle z)
      rw [show t = k ^ n by omega]
    | succ m ih =>
      intro t ht
      have hlo := lo_lt (k := k) (n := n) (w := t) (by omega)
      have e1 : lf (nI t).toNatClampNeg = nI (lo k n t) := by rw [nI_clamp (by omega), hlf t (by omega)]
      have nx := ih (t + 1) (by omega)
      have ecs : rgs k n (t + 1) = rgs k n t + (decide (lo k n t = t)).toNat := rfl
      rw [ecs] at nx
      refine tX8_rings_4 g42 g43 (fun z => absurd z (nI_ge (by omega) (by omega))) (fun _ => vp_in_nI (by omega) (by decide)) (fun _ z => ?_) (fun _ z => ?_)
      · rw [e1, nI_eq (by omega) (by omega)] at z
        rw [decide_eq_false z] at nx
        rw [nI_1, Int32.add_zero]
        exact nx
      · rw [e1, nI_eq (by omega) (by omega)] at z
        rw [decide_eq_true z] at nx
        rw [nI_1, nI_1]
        exact nx
  exact Ct_of (by decide +kernel) (Nat.le_of_ble_eq_true rfl) (tX8_rings_0 (key (k ^ n) 0 (by omega)))
theorem M_ringOf (ok : okW k n) (g42 : h 42 = cM (nI k) (nI n) (nI (k ^ n)) ms mx mc mw ml mf mp mg) (g43 : h 43 = aI 20000 lf) (hlf : ∀ w, w < k ^ n → lf w = nI (lo k n w)) (x : Int32) : Ct G mX8_ringOf 2 0 0 [.ref 42, .int x] h (Rv (.int (aw k n (fun w => nI (rgs k n (lo k n w))) x)) h) := by
  have hN := ok.le (Nat.le_refl n)
  refine Ct_of (by decide +kernel) (Nat.le_of_ble_eq_true rfl) (tX8_ringOf_0 ?_)
  refine cX8_ringOf_2 (k := 40) (C_isWord ok g42 x) g42 ⟨by decide, by decide⟩ (Nat.le_of_ble_eq_true rfl) ⟨Nat.le_refl _, Nat.le_refl _⟩ (fun r h3 e => ?_)
  obtain ⟨rfl, e⟩ := e; replace e := e.symm; subst e
  refine tX8_ringOf_5 (fun e => ?_) (fun e => ⟨by rw [aw_no ((z01 _).mp e)], rfl⟩)
  obtain ⟨w, hw, rfl⟩ := wd_pick ok (fun z => e ((z01 _).mpr z))
  rw [aw_w ok _ hw]
  have hlw := lo_lt hw
  have ew : lf (nI w).toNatClampNeg = nI (lo k n w) := by rw [nI_clamp (by omega), hlf w hw]
  have inw : vp_in (nI w) 20000 := vp_in_nI (by omega) (by decide)
  have key : ∀ m t, t + m = lo k n w → V G mX8_ringOf (b0 2) 15 [some (.ref 42), some (.int (nI w)), some (.int (nI (rgs k n t))), some (.int (nI t))] [] h (Rv (.int (nI (rgs k n (lo k n w)))) h) := by
    intro m
    induction m with
    | zero =>
      intro t ht
      have kle : lf (nI w).toNatClampNeg ≤ nI t := by rw [ew]; exact nI_le (by omega) (by omega)
      refine tX8_ringOf_15 g42 g43 inw (fun _ => ⟨?_, rfl⟩) (fun z => absurd kle z) (fun z => absurd kle z) (fun z => absurd kle z)
      rw [show t = lo k n w by omega]
    | succ m ih =>
      intro t ht
      have hlo := lo_lt (k := k) (n := n) (w := t) (by omega)
      have e1 : lf (nI t).toNatClampNeg = nI (lo k n t) := by rw [nI_clamp (by omega), hlf t (by omega)]
      have nx := ih (t + 1) (by omega)
      have ecs : rgs k n (t + 1) = rgs k n t + (decide (lo k n t = t)).toNat := rfl
      rw [ecs] at nx
      refine tX8_ringOf_15 g42 g43 inw (fun z => absurd (by rw [ew] at z; exact z) (nI_ge (a := t) (b := lo k n w) (by omega) (by omega))) (fun _ => vp_in_nI (by omega) (by decide)) (fun _ z => ?_) (fun _ z => ?_)
      · rw [e1, nI_eq (by omega) (by omega)] at z
        rw [decide_eq_false z] at nx
        rw [nI_1, Int32.add_zero]
        exact nx
      · rw [e1, nI_eq (by omega) (by omega)] at z
        rw [decide_eq_true z] at nx
        rw [nI_1, nI_1]
        exact nx
  exact key (lo k n w) 0 (by omega)
end MR
theorem st_rings (hJ : J h) : Sp G J mX7_rings mX8_rings [] h := by
  obtain ⟨k, n, s, F, T, E, kd, f, l, P, L, mc, hJm⟩ := hJ
  have hJ2 := hJm
  obtain ⟨⟨ok, -⟩, g2, g42, ⟨⟨s1, s2, c, s3, l0, cn, lw, pw, ff, g3, g4, hp, -⟩, -⟩, -, -, -, -, ⟨g5, ⟨o, g6⟩, ⟨pp, g7⟩, -⟩⟩ := hJm
  refine Sp_of g2 (dx := 5) (dm := 1) (by decide) (by decide) (X_rings ok g2 g3 g4 hp g5 g6 g7) (fun r h1 e => ?_)
  obtain ⟨rfl, q6, q7, qf⟩ := e
  have hJ3 := hJ2.k67 qf q6 q7
  have hJ4 : J h1 := ⟨k, n, s, F, T, E, kd, f, l, P, L, mc, hJ3⟩
  obtain ⟨-, -, d42, ⟨-, -, ⟨lf, d43, hlf⟩, -⟩, -⟩ := hJ3
  refine ⟨_, _, rfl, d42, Ct.mono (M_rings ok d42 d43 hlf) (fun r2 h2 q => ?_)⟩
  obtain ⟨q1, q2⟩ := q
  rw [q2]
  exact ⟨q1, hJ4⟩
theorem st_ringOf (hJ : J h) (a1 : Int32) : Sp G J mX7_ringOf mX8_ringOf [.int a1] h := by
  obtain ⟨k, n, s, F, T, E, kd, f, l, P, L, mc, hJm⟩ := hJ
  have hJ2 := hJm
  obtain ⟨⟨ok, -⟩, g2, g42, ⟨⟨s1, s2, c, s3, l0, cn, lw, pw, ff, g3, g4, hp, -⟩, -⟩, -, -, -, -, ⟨g5, ⟨o, g6⟩, ⟨pp, g7⟩, -⟩⟩ := hJm
  refine Sp_of g2 (dx := 5) (dm := 2) (by decide) (by decide) (X_ringOf ok g2 g3 g4 hp g5 g6 g7 a1) (fun r h1 e => ?_)
  obtain ⟨rfl, q6, q7, qf⟩ := e
  have hJ3 := hJ2.k67 qf q6 q7
  have hJ4 : J h1 := ⟨k, n, s, F, T, E, kd, f, l, P, L, mc, hJ3⟩
  obtain ⟨-, -, d42, ⟨-, -, ⟨lf, d43, hlf⟩, -⟩, -⟩ := hJ3
  refine ⟨_, _, rfl, d42, Ct.mono (M_ringOf ok d42 d43 hlf a1) (fun r2 h2 q => ?_)⟩
  obtain ⟨q1, q2⟩ := q
  rw [q2]
  exact ⟨q1, hJ4⟩
end RNG
