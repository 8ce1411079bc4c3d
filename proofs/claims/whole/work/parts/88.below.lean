/-! words up to a word, and step below -/
theorem ck {k d : Nat} (ok : okW k d) : ab2 k d 0 = k ^ d - 1 ∧ gon (stp k d) 12 (k ^ d - 1) = (k ^ d - 1) * 32768 := by
  obtain ⟨h1, h2, h3, h4, h5⟩ := ok
  obtain ⟨e, rfl⟩ : ∃ e, d = e + 1 := ⟨d - 1, by omega⟩
  have hk : k = 2 ∨ k = 3 ∨ k = 4 ∨ k = 5 := by omega
  rcases hk with rfl | rfl | rfl | rfl
  · exact ck_2 e (by omega)
  · refine ck_3 e (Nat.lt_of_not_le (fun q => ?_))
    have h := Nat.pow_le_pow_right (n := 3) (by decide) (show 10 ≤ e + 1 by omega)
    exact absurd (Nat.le_trans h h5) (by decide)
  · refine ck_4 e (Nat.lt_of_not_le (fun q => ?_))
    have h := Nat.pow_le_pow_right (n := 4) (by decide) (show 8 ≤ e + 1 by omega)
    exact absurd (Nat.le_trans h h5) (by decide)
  · refine ck_5 e (Nat.lt_of_not_le (fun q => ?_))
    have h := Nat.pow_le_pow_right (n := 5) (by decide) (show 7 ≤ e + 1 by omega)
    exact absurd (Nat.le_trans h h5) (by decide)
theorem W_ok {k d u : Nat} (ok : okW k d) (hu : u < k ^ d) : abv k d (lwr k d d (dgt k d u)) + stA k d (u + 1) = k ^ d := by
  have hk := ok.1
  have hd := ok.2.2.1
  have hN := ok.2.2.2.2
  obtain ⟨c1, c2⟩ := ck ok
  obtain ⟨y1, y2, y3, y4⟩ := lwr_ok hk hd d (dgt k d u) (fun i => dgt_lt ok.pos) (by
    rcases fft_ok (d := d) (x := dgt k d u) (k := k) (fun i => dgt_lt ok.pos) (d - 1) 1 1 (by omega) pre_1 with ⟨q1, -⟩ | ⟨-, q1, -⟩
    · exact Or.inl q1
    · exact Or.inr (Nat.le_of_lt q1)) hd
  rw [rn_dgt ok.pos hu] at y3 y4
  rw [gon_eq] at c2
  have h1 := ch_ok ok _ _ (ch_start ok c1) c2 _ (rn_lt y1 d) y2 (by rw [Nat.div_eq_of_lt (by omega)]; exact Nat.zero_le _)
  rw [ab2_eq ok.pos y1 hd] at h1
  have h2 := (st_sk (k := k) (n := d) (rn k (lwr k d d (dgt k d u)) d + 1) (u - rn k (lwr k d d (dgt k d u)) d) (fun w w1 w2 e => y4 w (by omega) (by omega) (by omega) (lo_PN ok.pos (by omega) e))).1
  rw [show rn k (lwr k d d (dgt k d u)) d + 1 + (u - rn k (lwr k d d (dgt k d u)) d) = u + 1 by omega] at h2
  rw [h2]
  exact h1
section BL
variable {G : gx} {h : ah} {k n : Nat}
theorem okW.sub (ok : okW k n) {d : Nat} (h1 : 1 ≤ d) (hd : d ≤ n) : okW k d := ⟨ok.1, ok.2.1, h1, by have := ok.2.2.2.1; omega, ok.le hd⟩
theorem C_words {d v : Nat} {o pp pw : Nat → Int32} (ok : okW k n) (g3 : h 3 = cW k n) (g4 : h 4 = aI 15 pw) (hp : isP k n pw) (g5 : h 5 = cK5) (g6 : h 6 = aI 14 o) (g7 : h 7 = aI 15 pp) (hd1 : 1 ≤ d) (hd : d ≤ n) (hv : v ≤ k ^ d) : Ct G mX3_wordsUpTo 3 0 0 [.ref 5, .int (nI d), .int (nI v - 1)] h (fun r h2 => r = some (.int (nI (stA k d v))) ∧ (∃ a, h2 6 = aI 14 a) ∧ (∃ a, h2 7 = aI 15 a) ∧ Fr [6, 7] h h2) := by
  have okd := ok.sub hd1 hd
  rcases Nat.eq_zero_or_pos v with z | z
  · rw [z]
    refine Ct.mono (C_wordsNeg (d := d) (v := nI 0 - 1) (by decide) (dp := 3)) (fun r h2 e => ?_)
    obtain ⟨e1, e2⟩ := e
    rw [e2]
    exact ⟨e1, ⟨o, g6⟩, ⟨pp, g7⟩, Fr.rf⟩
  · obtain ⟨u, rfl⟩ : ∃ u, v = u + 1 := ⟨v - 1, by omega⟩
    have hw := W_ok okd (u := u) (by omega)
    have he : nI (k ^ d) - nI (abv k d (lwr k d d (dgt k d u))) = nI (stA k d (u + 1)) := by
      rw [pk_sub (by omega)]
      congr 1
      omega
    have e1 : nI (u + 1) - (1 : Int32) = nI u := nI_pred u
    rw [e1, ← he]
    exact C_wordsUpTo ok g3 g4 hp g5 g6 g7 hd1 hd (by omega)
theorem X_below {o pp pw : Nat → Int32} {f l : Int32} (ok : okW k n) (g2 : h 2 = cX f l) (g3 : h 3 = cW k n) (g4 : h 4 = aI 15 pw) (hp : isP k n pw) (g5 : h 5 = cK5) (g6 : h 6 = aI 14 o) (g7 : h 7 = aI 15 pp) (x : Int32) : Ct G mX7_below 4 0 0 [.ref 2, .int x] h (fun r h2 => r = some (.int (aw k n (fun w => nI (stA k n w)) x)) ∧ (∃ a, h2 6 = aI 14 a) ∧ (∃ a, h2 7 = aI 15 a) ∧ Fr [6, 7] h h2) := by
  refine Ct_of (by decide +kernel) (Nat.le_of_ble_eq_true rfl) (tX7_below_0 g2 ?_)
  refine cX7_below_5 (k := 1) (C_has g3 x (d := 0)) g3 ⟨by decide, by decide⟩ (Nat.le_of_ble_eq_true rfl) ⟨Nat.le_refl _, Nat.le_refl _⟩ (fun r h3 e => ?_)
  obtain ⟨rfl, e⟩ := e; replace e := e.symm; subst e
  refine tX7_below_8 g2 g3 (fun e => ⟨by rw [aw_no ((z01 _).mp e)], ⟨o, g6⟩, ⟨pp, g7⟩, Fr.rf⟩) (fun e => ?_)
  obtain ⟨w, hw, rfl⟩ := wd_pick ok (fun z => e ((z01 _).mpr z))
  refine cX7_below_25 (k := 3) (C_words ok g3 g4 hp g5 g6 g7 ok.2.2.1 (Nat.le_refl _) (Nat.le_of_lt hw)) g5 ⟨by decide, by decide⟩ (Nat.le_of_ble_eq_true rfl) ⟨Nat.le_refl _, Nat.le_refl _⟩ (fun r h4 q => ?_)
  obtain ⟨rfl, q6, q7, qf⟩ := q
  exact tX7_below_28 ⟨by rw [aw_w ok _ hw], q6, q7, qf⟩
theorem M_below {lf : Nat → Int32} {ms mx mc mw ml mf mp mg : Int32} (ok : okW k n) (g42 : h 42 = cM (nI k) (nI n) (nI (k ^ n)) ms mx mc mw ml mf mp mg) (g43 : h 43 = aI 20000 lf) (hlf : ∀ w, w < k ^ n → lf w = nI (lo k n w)) (x : Int32) : Ct G mX8_below 2 0 0 [.ref 42, .int x] h (Rv (.int (aw k n (fun w => nI (stA k n w)) x)) h) := by
  have hN := ok.le (Nat.le_refl n)
  refine Ct_of (by decide +kernel) (Nat.le_of_ble_eq_true rfl) (tX8_below_0 ?_)
  refine cX8_below_2 (k := 40) (C_isWord ok g42 x) g42 ⟨by decide, by decide⟩ (Nat.le_of_ble_eq_true rfl) ⟨Nat.le_refl _, Nat.le_refl _⟩ (fun r h3 e => ?_)
  obtain ⟨rfl, e⟩ := e; replace e := e.symm; subst e
  refine tX8_below_5 (fun e => ?_) (fun e => ⟨by rw [aw_no ((z01 _).mp e)], rfl⟩)
  obtain ⟨w, hw, rfl⟩ := wd_pick ok (fun z => e ((z01 _).mpr z))
  rw [aw_w ok _ hw, stA_cs ok w (Nat.le_of_lt hw)]
  have key : ∀ m t, t + m = k ^ n → V G mX8_below (b0 2) 15 [some (.ref 42), some (.int (nI w)), some (.int (nI (cs (fun x => decide (lo k n x < w)) t))), some (.int (nI t))] [] h (Rv (.int (nI (cs (fun x => decide (lo k n x < w)) (k ^ n)))) h) := by
    intro m
    induction m with
    | zero =>
      intro t ht
      have kle : nI (k ^ n) ≤ nI t := nI_le (by omega) (by omega)
      refine tX8_below_15 g42 g43 (fun _ => ⟨?_, rfl⟩) (fun z => absurd kle z) (fun z => absurd kle z) (fun z => absurd kle z)
      rw [show t = k ^ n by omega]
    | succ m ih =>
      intro t ht
      have hlo := lo_lt (k := k) (n := n) (w := t) (by omega)
      have e1 : lf (nI t).toNatClampNeg = nI (lo k n t) := by rw [nI_clamp (by omega), hlf t (by omega)]
      have nx := ih (t + 1) (by omega)
      have ecs : cs (fun x => decide (lo k n x < w)) (t + 1) = cs (fun x => decide (lo k n x < w)) t + (decide (lo k n t < w)).toNat := rfl
      rw [ecs] at nx
      refine tX8_below_15 g42 g43 (fun z => absurd z (nI_ge (by omega) (by omega))) (fun _ => vp_in_nI (by omega) (by decide)) (fun _ z => ?_) (fun _ z => ?_)
      · rw [e1, nI_leI (by omega) (by omega)] at z
        rw [decide_eq_false (by omega)] at nx
        rw [nI_1, Int32.add_zero]
        exact nx
      · rw [e1, nI_leI (by omega) (by omega)] at z
        rw [decide_eq_true (by omega)] at nx
        rw [nI_1, nI_1]
        exact nx
  exact key (k ^ n) 0 (by omega)
theorem Jm.k67 {s E P L : Nat} {F T : Nat → Nat} {kd f l mc : Int32} {h2 : ah} (hJ : Jm k n s F T E kd f l P L mc h) (hf : Fr [6, 7] h h2) (h6 : ∃ a, h2 6 = aI 14 a) (h7 : ∃ a, h2 7 = aI 15 a) : Jm k n s F T E kd f l P L mc h2 := by
  obtain ⟨a1, a2, a3, a4, a5, a6, a7, a8, ⟨b1, -, -, ⟨b2, a9⟩, ⟨b3, c1⟩, ⟨b4, c2⟩⟩⟩ := hJ
  exact ⟨a1, (hf 2 (by decide)).trans a2, (hf 42 (by decide)).trans a3, a4.fr hf (by decide), a5.fr hf (by decide), a6.fr hf (by decide), a7.fr hf (by decide), a8.fr hf (by decide), (hf 5 (by decide)).trans b1, h6, h7, ⟨b2, (hf 8 (by decide)).trans a9⟩, ⟨b3, (hf 44 (by decide)).trans c1⟩, ⟨b4, (hf 45 (by decide)).trans c2⟩⟩
theorem st_below (hJ : J h) (a1 : Int32) : Sp G J mX7_below mX8_below [.int a1] h := by
  obtain ⟨k, n, s, F, T, E, kd, f, l, P, L, mc, hJm⟩ := hJ
  have hJ2 := hJm
  obtain ⟨⟨ok, -⟩, g2, g42, ⟨⟨s1, s2, c, s3, l0, cn, lw, pw, ff, g3, g4, hp, -⟩, -⟩, -, -, -, -, ⟨g5, ⟨o, g6⟩, ⟨pp, g7⟩, -⟩⟩ := hJm
  refine Sp_of g2 (dx := 4) (dm := 2) (by decide) (by decide) (X_below ok g2 g3 g4 hp g5 g6 g7 a1) (fun r h1 e => ?_)
  obtain ⟨rfl, q6, q7, qf⟩ := e
  have hJ3 := hJ2.k67 qf q6 q7
  have hJ4 : J h1 := ⟨k, n, s, F, T, E, kd, f, l, P, L, mc, hJ3⟩
  obtain ⟨-, -, d42, ⟨-, -, ⟨lf, d43, hlf⟩, -⟩, -⟩ := hJ3
  refine ⟨_, _, rfl, d42, Ct.mono (M_below ok d42 d43 hlf a1) (fun r2 h2 q => ?_)⟩
  obtain ⟨q1, q2⟩ := q
  rw [q2]
  exact ⟨q1, hJ4⟩
end BL
