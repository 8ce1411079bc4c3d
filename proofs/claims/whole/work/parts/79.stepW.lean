/-! STEPS: wheel, factor, sum, round -/
abbrev cQx : List Nat := 2 :: 42 :: (cR_ ++ cO_)
theorem Jm.rnd {k n s E P L k2 n2 s2 E2 : Nat} {F T F2 T2 : Nat → Nat} {kd f l mc kd2 f2 mc2 : Int32} {h h2 : ah} (hJ : Jm k n s F T E kd f l P L mc h) {Z : List Nat} (hf : Fr Z h h2) (hz : ∀ j, j ∈ Z → j ∈ cQx) (hp : JP k2 n2 s2 F2 T2 E2) (g2 : h2 2 = cX f2 l) (g42 : h2 42 = cM (nI k2) (nI n2) (nI (k2 ^ n2)) (nI s2) (nI E2) mc2 kd2 l f2 (nI P) (nI L)) (hr : JR k2 n2 s2 F2 T2 E2 h2) (ho : JO k2 n2 kd2 h2) : J h2 := by
  obtain ⟨-, -, -, -, -, jt, jq, jc, jk⟩ := hJ
  exact ⟨k2, n2, s2, F2, T2, E2, kd2, f2, l, P, L, mc2, hp, g2, g42, hr, ho, jt.fr hf (fun j hj q => (show ∀ j, j ∈ cT_ → j ∉ cQx by decide) j hj (hz j q)), jq.fr hf (fun j hj q => (show ∀ j, j ∈ [36, 37, 59] → j ∉ cQx by decide) j hj (hz j q)), jc.fr hf (fun j hj q => (show ∀ j, j ∈ cC_ → j ∉ cQx by decide) j hj (hz j q)), jk.fr hf (fun j hj q => (show ∀ j, j ∈ cK_ → j ∉ cQx by decide) j hj (hz j q))⟩
theorem JP.new {k n s : Nat} {F : Nat → Nat} (ok : okW k n) (hF : okF k F) (hs : s < k) : JP k n s F (ld k n F s) 0 := ⟨ok, hF, hs, ld_ok ok.pos ok.2.2.1, ld_inj ok hF hs, Nat.zero_le _, fun q => absurd q (Nat.lt_irrefl 0)⟩
section ST3
variable {G : gx} {h : ah}
theorem st_wheel (hJ : J h) (a1 a2 : Int32) : Sp G J mX7_wheel mX8_wheel [.int a1, .int a2] h := by
  have hJ2 := hJ
  obtain ⟨k, n, s, F, T, E, kd, f, l, P, L, mc, hm⟩ := hJ
  have hm2 := hm
  obtain ⟨hp, g2, g42, ⟨hg, ⟨⟨tt, g47, htt⟩, ⟨sn, g50⟩, ⟨nn, g51⟩⟩, ⟨lf, a3, a4⟩, ⟨ff, a5, a6⟩, ⟨o1, o2, b1, b2, b3, b4, b5⟩, ⟨g, a7⟩, ⟨gg, a8⟩⟩, ⟨⟨fm, g17⟩, ⟨rl, rm, g18, g53, -⟩, ⟨pl, g19, g54⟩, ⟨o, g20⟩, ⟨sl, g21⟩, ⟨st, g22⟩⟩, -⟩ := hm
  rcases hw_cases a1 a2 with ⟨k2, n2, ok, rfl, rfl, -⟩ | ⟨hw0, hno⟩
  · obtain ⟨s1, s2, c, s3, l0, cn, lw, pw, ff0, g3, g4, hpw, g9, g10, hff, g13, hL, g14, g15, hn, hc⟩ := hg
    refine Sp_of g2 (dx := 2) (dm := 2) (by decide) (by decide) (X_wheel ok g2 g3 g4 g9 g10 g17) (fun r h1 e => ?_)
    obtain ⟨rfl, k2', k3, ⟨p2, k4, kp⟩, k9, ⟨f2, k10, kt⟩, k17, kf⟩ := e
    have k42 := (kf 42 (by decide)).trans g42
    refine ⟨_, _, rfl, k42, Ct.mono (M_wheel ok k42 ((kf 43 (by decide)).trans a3) ((kf 46 (by decide)).trans a5) ((kf 47 (by decide)).trans g47)) (fun r2 h2 q => ?_)⟩
    obtain ⟨q1, q42, q43, ⟨f3, q46, qt⟩, ⟨t2, q47, qtt⟩, qf⟩ := q
    have hf := kf.tr2 qf
    refine ⟨q1, hm2.rnd hf (by decide) (JP.new ok (okFT ok.1) ok.pos) ((qf 2 (by decide)).trans k2') q42 ⟨⟨0, 0, c, 0, l0, cn, lw, p2, f2, (qf 3 (by decide)).trans k3, (qf 4 (by decide)).trans k4, kp, (qf 9 (by decide)).trans k9, (qf 10 (by decide)).trans k10, isT_F kt, (hf 13 (by decide)).trans g13, Or.inl ⟨rfl, fun _ _ => rfl⟩, (hf 14 (by decide)).trans g14, (hf 15 (by decide)).trans g15, Or.inl rfl, Or.inl rfl⟩, ⟨⟨t2, q47, qtt⟩, ⟨sn, (hf 50 (by decide)).trans g50⟩, ⟨nn, (hf 51 (by decide)).trans g51⟩⟩, q43, ⟨f3, q46, isT_F qt⟩, ⟨o1, o2, (hf 11 (by decide)).trans b1, (hf 12 (by decide)).trans b2, (hf 48 (by decide)).trans b3, (hf 49 (by decide)).trans b4, fun i hi => absurd hi (Nat.not_lt_zero i)⟩, ⟨g, (hf 16 (by decide)).trans a7⟩, ⟨gg, (hf 52 (by decide)).trans a8⟩⟩ ⟨⟨fm, (qf 17 (by decide)).trans k17⟩, ⟨rl, rm, (hf 18 (by decide)).trans g18, (hf 53 (by decide)).trans g53, fun q => absurd rfl q⟩, ⟨pl, (hf 19 (by decide)).trans g19, (hf 54 (by decide)).trans g54⟩, ⟨o, (hf 20 (by decide)).trans g20⟩, ⟨sl, (hf 21 (by decide)).trans g21⟩, ⟨st, (hf 22 (by decide)).trans g22⟩⟩⟩
  · exact Sp_pure hJ2 g2 g42 (by decide) (by decide) (X_wheel_no g2 hw0) (M_wheel_no g42 hno) rfl
theorem st_factor (hJ : J h) (a1 a2 : Int32) : Sp G J mX7_factor mX8_factor [.int a1, .int a2] h := by
  have hJ2 := hJ
  obtain ⟨k, n, s, F, T, E, kd, f, l, P, L, mc, hm⟩ := hJ
  have hm2 := hm
  obtain ⟨hp, g2, g42, ⟨hg, ⟨⟨tt, g47, htt⟩, ⟨sn, g50⟩, ⟨nn, g51⟩⟩, ⟨lf, a3, a4⟩, ⟨ff, a5, a6⟩, ⟨o1, o2, b1, b2, b3, b4, b5⟩, ⟨g, a7⟩, ⟨gg, a8⟩⟩, -⟩ := hm
  have ok := hp.1
  have hn2 := ok.2.2.2.1
  have hk5 := ok.2.1
  by_cases hb : (a1 < 0 ∨ nI n ≤ a1) ∨ (a2 < 0 ∨ nI k ≤ a2)
  · exact Sp_pure hJ2 g2 g42 (by decide) (by decide) (X_factor_no g2 hg.g3 hb) (M_factor_no ok g42 a5 hb) rfl
  · obtain ⟨i, hi, rfl⟩ := p_pick (by omega) (fun q => hb (Or.inl q))
    have hv0 : ¬ (a2 < 0 ∨ nI k ≤ a2) := fun q => hb (Or.inr q)
    obtain ⟨v, hv, rfl⟩ := p_pick (by omega) hv0
    obtain ⟨s1, s2, c, s3, l0, cn, lw, pw, ff0, g3, g4, hpw, g9, g10, hff, g13, hL, g14, g15, hn, hc⟩ := hg
    refine Sp_of g2 (dx := 2) (dm := 2) (by decide) (by decide) (X_factor ok g2 g3 g9 g10 hi hv0) (fun r h1 e => ?_)
    obtain ⟨rfl, e⟩ := e
    have kf : Fr [10, 9] h h1 := by rw [e]; exact (Fr.rf.up (by decide)).up (by decide)
    have k9 : h1 9 = cR (nI s) 0 0 0 c 0 := by rw [e]; exact up_s _ _ _
    have k10 : h1 10 = aI 14 (upd ff0 i (nI v)) := by rw [e]; exact (up_n _ _ (by decide)).trans (up_s _ _ _)
    have k42 := (kf 42 (by decide)).trans g42
    refine ⟨_, _, rfl, k42, Ct.mono (M_factor ok hp.2.1 hp.2.2.1 k42 ((kf 46 (by decide)).trans a5) a6 ((kf 47 (by decide)).trans g47) hi hv) (fun r2 h2 q => ?_)⟩
    obtain ⟨q1, q42, q46, ⟨t2, q47, qtt⟩, qf⟩ := q
    have hf := kf.tr2 qf
    refine ⟨by rw [q1, a6 i (by omega), hff i (by omega)], hm2.reg hf (by decide) (JP.new ok (uF_ok hp.2.1 hv) hp.2.2.1) ((hf 2 (by decide)).trans g2) q42 ⟨⟨0, 0, c, 0, l0, cn, lw, pw, _, (hf 3 (by decide)).trans g3, (hf 4 (by decide)).trans g4, hpw, (qf 9 (by decide)).trans k9, (qf 10 (by decide)).trans k10, uF_is hff i v, (hf 13 (by decide)).trans g13, Or.inl ⟨rfl, fun _ _ => rfl⟩, (hf 14 (by decide)).trans g14, (hf 15 (by decide)).trans g15, Or.inl rfl, Or.inl rfl⟩, ⟨⟨t2, q47, qtt⟩, ⟨sn, (hf 50 (by decide)).trans g50⟩, ⟨nn, (hf 51 (by decide)).trans g51⟩⟩, ⟨lf, (hf 43 (by decide)).trans a3, a4⟩, ⟨_, q46, uF_is a6 i v⟩, ⟨o1, o2, (hf 11 (by decide)).trans b1, (hf 12 (by decide)).trans b2, (hf 48 (by decide)).trans b3, (hf 49 (by decide)).trans b4, fun i hi => absurd hi (Nat.not_lt_zero i)⟩, ⟨g, (hf 16 (by decide)).trans a7⟩, ⟨gg, (hf 52 (by decide)).trans a8⟩⟩⟩
theorem st_sum (hJ : J h) (a1 : Int32) : Sp G J mX7_sum mX8_sum [.int a1] h := by
  have hJ2 := hJ
  obtain ⟨k, n, s, F, T, E, kd, f, l, P, L, mc, hm⟩ := hJ
  have hm2 := hm
  obtain ⟨hp, g2, g42, ⟨hg, ⟨⟨tt, g47, htt⟩, ⟨sn, g50⟩, ⟨nn, g51⟩⟩, ⟨lf, a3, a4⟩, ⟨ff, a5, a6⟩, ⟨o1, o2, b1, b2, b3, b4, b5⟩, ⟨g, a7⟩, ⟨gg, a8⟩⟩, -⟩ := hm
  have ok := hp.1
  obtain ⟨s1, s2, c, s3, l0, cn, lw, pw, ff0, g3, g4, hpw, g9, g10, hff, g13, hL, g14, g15, hn, hc⟩ := hg
  refine Sp_of g2 (dx := 2) (dm := 2) (by decide) (by decide) (X_sum a1 g2 g3 g9) (fun r h1 e => ?_)
  by_cases hb : a1 < 0 ∨ nI k ≤ a1
  · rw [if_pos hb] at e
    obtain ⟨rfl, e⟩ := e
    subst e
    refine ⟨_, _, rfl, g42, Ct.mono (M_sum ok hp.2.1 g42 a5 a6 g47) (fun r2 h2 q => ?_)⟩
    rw [if_pos hb] at q
    exact ⟨q.1, by rw [q.2]; exact hJ2⟩
  · rw [if_neg hb] at e
    obtain ⟨rfl, e⟩ := e
    have kf : Fr [9] h h1 := by rw [e]; exact Fr.rf.up (by decide)
    have k9 : h1 9 = cR a1 0 0 0 c 0 := by rw [e]; exact up_s _ _ _
    have k42 := (kf 42 (by decide)).trans g42
    refine ⟨_, _, rfl, k42, Ct.mono (M_sum ok hp.2.1 k42 ((kf 46 (by decide)).trans a5) a6 ((kf 47 (by decide)).trans g47)) (fun r2 h2 q => ?_)⟩
    rw [if_neg hb] at q
    obtain ⟨q1, s4, hs4, rfl, q42, ⟨t2, q47, qtt⟩, qf⟩ := q
    have hf := kf.tr2 qf
    exact ⟨q1, hm2.reg hf (by decide) (JP.new ok hp.2.1 hs4) ((hf 2 (by decide)).trans g2) q42 ⟨⟨0, 0, c, 0, l0, cn, lw, pw, ff0, (hf 3 (by decide)).trans g3, (hf 4 (by decide)).trans g4, hpw, (qf 9 (by decide)).trans k9, (hf 10 (by decide)).trans g10, hff, (hf 13 (by decide)).trans g13, Or.inl ⟨rfl, fun _ _ => rfl⟩, (hf 14 (by decide)).trans g14, (hf 15 (by decide)).trans g15, Or.inl rfl, Or.inl rfl⟩, ⟨⟨t2, q47, qtt⟩, ⟨sn, (hf 50 (by decide)).trans g50⟩, ⟨nn, (hf 51 (by decide)).trans g51⟩⟩, ⟨lf, (hf 43 (by decide)).trans a3, a4⟩, ⟨ff, (hf 46 (by decide)).trans a5, a6⟩, ⟨o1, o2, (hf 11 (by decide)).trans b1, (hf 12 (by decide)).trans b2, (hf 48 (by decide)).trans b3, (hf 49 (by decide)).trans b4, fun i hi => absurd hi (Nat.not_lt_zero i)⟩, ⟨g, (hf 16 (by decide)).trans a7⟩, ⟨gg, (hf 52 (by decide)).trans a8⟩⟩⟩
theorem st_round (hJ : J h) (a1 : Int32) : Sp G J mX7_round mX8_round [.int a1] h := by
  have hJ2 := hJ
  obtain ⟨k, n, s, F, T, E, kd, f, l, P, L, mc, hm⟩ := hJ
  have hm2 := hm
  obtain ⟨hp, g2, g42, hr, ⟨⟨fm, g17⟩, ⟨rl, rm, g18, g53, hrr⟩, ⟨pl, g19, g54⟩, ⟨o, g20⟩, ⟨sl, g21⟩, ⟨st, g22⟩⟩, -⟩ := hm
  have ok := hp.1
  have hr2 := hr
  obtain ⟨hg, hrm, ⟨lf, a3, a4⟩, -⟩ := hr
  have hTl : ∀ w, w < k ^ n → T w < k ^ n := fun w hw => (hp.2.2.2.1 w hw).1
  rcases k_pick a1 with hb | rfl | rfl | rfl
  · exact Sp_pure hJ2 g2 g42 (by decide) (by decide) (X_round_bad hb) (M_round_bad hb) rfl
  · refine Sp_of g2 (dx := 5) (dm := 3) (by decide) (by decide) (X_round_least ok g2 hg.g3 g17 g18 g19 g20) (fun r h1 e => ?_)
    obtain ⟨rfl, k17, ⟨r2, k18, kr⟩, k19, ⟨o2, k20⟩, kf⟩ := e
    have k42 := (kf 42 (by decide)).trans g42
    refine ⟨_, _, rfl, k42, Ct.mono (M_round_least ok k42 ((kf 43 (by decide)).trans a3) a4 ((kf 53 (by decide)).trans g53) ((kf 54 (by decide)).trans g54)) (fun r2' h2 q => ?_)⟩
    obtain ⟨q1, q42, ⟨r3, q53, qr⟩, q54, qf⟩ := q
    have hf := kf.tr2 qf
    exact ⟨q1, hm2.rnd hf (by decide) hp ((hf 2 (by decide)).trans g2) q42 (hr2.fr hf (by decide)) ⟨⟨fm, (qf 17 (by decide)).trans k17⟩, ⟨r2, r3, (qf 18 (by decide)).trans k18, q53, fun _ => ⟨stF k n (k ^ n), fun j hj => ⟨kr j hj, qr j hj, stF_lt ok.pos _ j⟩⟩⟩, ⟨_, (qf 19 (by decide)).trans k19, q54⟩, ⟨o2, (qf 20 (by decide)).trans k20⟩, ⟨sl, (hf 21 (by decide)).trans g21⟩, ⟨st, (hf 22 (by decide)).trans g22⟩⟩⟩
  · obtain ⟨-, ⟨sn, g50⟩, ⟨nn, g51⟩⟩ := hrm
    refine Sp_of g2 (dx := 5) (dm := 3) (by decide) (by decide) (X_round_greedy ok g2 hg.g3 g17 g18 g19) (fun r h1 e => ?_)
    obtain ⟨rfl, k17, ⟨r2, k18, kr⟩, k19, kf⟩ := e
    have k42 := (kf 42 (by decide)).trans g42
    refine ⟨_, _, rfl, k42, Ct.mono (M_round_greedy ok k42 ((kf 50 (by decide)).trans g50) ((kf 53 (by decide)).trans g53) ((kf 54 (by decide)).trans g54)) (fun r2' h2 q => ?_)⟩
    obtain ⟨q1, q42, q50, ⟨r3, q53, qr⟩, q54, qf⟩ := q
    have hf := kf.tr2 qf
    obtain ⟨⟨tt, c47, ctt⟩, -, ⟨nn2, c51⟩⟩ := hr2.2.1
    exact ⟨q1, hm2.rnd hf (by decide) hp ((hf 2 (by decide)).trans g2) q42 (hr2.keep hf (by decide) (hg.mono hf (by decide)) ⟨⟨tt, (hf 47 (by decide)).trans c47, ctt⟩, q50, ⟨nn2, (hf 51 (by decide)).trans c51⟩⟩) ⟨⟨fm, (qf 17 (by decide)).trans k17⟩, ⟨r2, r3, (qf 18 (by decide)).trans k18, q53, fun _ => ⟨gr k n, fun j hj => ⟨kr j hj, qr j hj, gr_lt ok.1 j⟩⟩⟩, ⟨_, (qf 19 (by decide)).trans k19, q54⟩, ⟨o, (hf 20 (by decide)).trans g20⟩, ⟨sl, (hf 21 (by decide)).trans g21⟩, ⟨st, (hf 22 (by decide)).trans g22⟩⟩⟩
  · refine Sp_of g2 (dx := 5) (dm := 3) (by decide) (by decide) (X_round_cyc ok hp.2.1 hp.2.2.1 hp.pm g2 hg g17 g18 g19) (fun r h1 e => ?_)
    by_cases hc : rt k (F 0) = true ∧ nQ T (k ^ n) = 1
    · rw [if_pos hc] at e
      obtain ⟨rfl, hg1, k17, ⟨r2, k18, kr⟩, k19, kf⟩ := e
      have k42 := (kf 42 (by decide)).trans g42
      refine ⟨_, _, rfl, k42, Ct.mono (M_round_cyc ok hTl hp.2.2.2.2.1 hp.2.2.2.1 k42 (hrm.fr kf (by decide)) ((kf 53 (by decide)).trans g53) ((kf 54 (by decide)).trans g54)) (fun r2' h2 q => ?_)⟩
      rw [if_pos hc] at q
      obtain ⟨q1, ⟨c2, q42⟩, qm, ⟨r3, q53, qr⟩, q54, qf⟩ := q
      have hf := kf.tr2 qf
      have hpm := hp.pm hc.1
      exact ⟨q1, hm2.rnd hf (by decide) hp ((hf 2 (by decide)).trans g2) q42 (hr2.keep hf (by decide) (hg1.mono qf (by decide)) qm) ⟨⟨fm, (qf 17 (by decide)).trans k17⟩, ⟨r2, r3, (qf 18 (by decide)).trans k18, q53, fun _ => ⟨fun j => itr T j 0 / k ^ (n - 1), fun j hj => ⟨kr j hj, qr j hj, hi_lt ok (itr_lt hpm (ok.pp n) j)⟩⟩⟩, ⟨_, (qf 19 (by decide)).trans k19, q54⟩, ⟨o, (hf 20 (by decide)).trans g20⟩, ⟨sl, (hf 21 (by decide)).trans g21⟩, ⟨st, (hf 22 (by decide)).trans g22⟩⟩⟩
    · rw [if_neg hc] at e
      obtain ⟨rfl, hg1, kf⟩ := e
      have k42 := (kf 42 (by decide)).trans g42
      refine ⟨_, _, rfl, k42, Ct.mono (M_round_cyc ok hTl hp.2.2.2.2.1 hp.2.2.2.1 k42 (hrm.fr kf (by decide)) ((kf 53 (by decide)).trans g53) ((kf 54 (by decide)).trans g54)) (fun r2' h2 q => ?_)⟩
      rw [if_neg hc] at q
      obtain ⟨q1, ⟨c2, q42⟩, qm, qf⟩ := q
      have hf := kf.tr2 qf
      exact ⟨q1, hm2.reg hf (by decide) hp ((hf 2 (by decide)).trans g2) q42 (hr2.keep hf (by decide) (hg1.mono qf (by decide)) qm)⟩
end ST3
