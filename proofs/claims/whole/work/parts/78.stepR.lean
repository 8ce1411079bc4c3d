/-! STEPS of the register -/
theorem Fr.tr2 {X Y : List Nat} {h h1 h2 : ah} (f : Fr X h h1) (g : Fr Y h1 h2) : Fr (X ++ Y) h h2 := fun j hj => (g j (fun q => hj (List.mem_append_right X q))).trans (f j (fun q => hj (List.mem_append_left Y q)))
abbrev cRx : List Nat := 2 :: 42 :: cR_
theorem Jm.reg {k n s E P L s2 E2 : Nat} {F T F2 T2 : Nat → Nat} {kd f l mc mc2 : Int32} {h h2 : ah} (hJ : Jm k n s F T E kd f l P L mc h) {Z : List Nat} (hf : Fr Z h h2) (hz : ∀ j, j ∈ Z → j ∈ cRx) (hp : JP k n s2 F2 T2 E2) (g2 : h2 2 = cX f l) (g42 : h2 42 = cM (nI k) (nI n) (nI (k ^ n)) (nI s2) (nI E2) mc2 kd l f (nI P) (nI L)) (hr : JR k n s2 F2 T2 E2 h2) : J h2 := by
  obtain ⟨-, -, -, -, jo, jt, jq, jc, jk⟩ := hJ
  exact ⟨k, n, s2, F2, T2, E2, kd, f, l, P, L, mc2, hp, g2, g42, hr, jo.fr hf (fun j hj q => (show ∀ j, j ∈ cO_ → j ∉ cRx by decide) j hj (hz j q)), jt.fr hf (fun j hj q => (show ∀ j, j ∈ cT_ → j ∉ cRx by decide) j hj (hz j q)), jq.fr hf (fun j hj q => (show ∀ j, j ∈ [36, 37, 59] → j ∉ cRx by decide) j hj (hz j q)), jc.fr hf (fun j hj q => (show ∀ j, j ∈ cC_ → j ∉ cRx by decide) j hj (hz j q)), jk.fr hf (fun j hj q => (show ∀ j, j ∈ cK_ → j ∉ cRx by decide) j hj (hz j q))⟩
/-- the register's rows behind a change of class cells (9, 13, 14, 15) and reference cells (50, 51) alone -/
theorem JR.keep {k n s E : Nat} {F T : Nat → Nat} {h h2 : ah} (hr : JR k n s F T E h) {Z : List Nat} (hf : Fr Z h h2) (hz : ∀ j, j ∈ [11, 12, 16, 43, 46, 48, 49, 52] → j ∉ Z) (hg : RG k n s F T (nI E) h2) (hm : RM k n T h2) : JR k n s F T E h2 := by
  obtain ⟨-, -, ⟨lf, a3, a4⟩, ⟨ff, a5, a6⟩, ⟨o1, o2, b1, b2, b3, b4, b5⟩, ⟨g, a7⟩, ⟨g2, a8⟩⟩ := hr
  exact ⟨hg, hm, ⟨lf, (hf 43 (hz 43 (by decide))).trans a3, a4⟩, ⟨ff, (hf 46 (hz 46 (by decide))).trans a5, a6⟩, ⟨o1, o2, (hf 11 (hz 11 (by decide))).trans b1, (hf 12 (hz 12 (by decide))).trans b2, (hf 48 (hz 48 (by decide))).trans b3, (hf 49 (hz 49 (by decide))).trans b4, b5⟩, ⟨g, (hf 16 (hz 16 (by decide))).trans a7⟩, ⟨g2, (hf 52 (hz 52 (by decide))).trans a8⟩⟩
section ST2
variable {G : gx} {h : ah}
theorem st_go (hJ : J h) (a1 : Int32) : Sp G J mX7_go mX8_go [.int a1] h := by
  have hJ2 := hJ
  obtain ⟨k, n, s, F, T, E, kd, f, l, P, L, mc, hm⟩ := hJ
  have hm2 := hm
  obtain ⟨hp, g2, g42, hr, -⟩ := hm
  have hr2 := hr
  obtain ⟨hg, ⟨⟨tt, g47, htt⟩, m50, m51⟩, -⟩ := hr
  have hg2 := hg
  obtain ⟨s1, s2, c, s3, l0, cn, lw, pw, ff, g3, g4, hpw, g9, g10, hff, g13, hL, g14, g15, hn, hc⟩ := hg
  have ok := hp.1
  have hN := ok.le (Nat.le_refl n)
  by_cases hx : a1 < 0 ∨ nI (k ^ n) ≤ a1
  · exact Sp_pure hJ2 g2 g42 (by decide) (by decide) (X_go_no g2 g3 hx) (M_go ok g42 g47 htt a1) (by rw [aw, if_pos hx])
  · obtain ⟨w, hw, rfl⟩ := p_pick hN hx
    refine Sp_of g2 (dm := 2) (by decide) (by decide) (X_go ok hp.2.1 hp.2.2.1 g2 g3 g4 hpw g9 g10 hff g13 hL hw) (fun r h1 e => ?_)
    obtain ⟨rfl, k9, ⟨l2, k13, kl⟩, kf⟩ := e
    have k42 := (kf 42 (by decide)).trans g42
    refine ⟨_, _, rfl, k42, Ct.mono (M_go ok k42 ((kf 47 (by decide)).trans g47) htt _) (fun r2 h2 q => ?_)⟩
    obtain ⟨q1, q2⟩ := q
    subst q2
    refine ⟨by rw [q1, aw, if_neg hx, nI_clamp (by omega)], hm2.reg kf (by decide) hp ((kf 2 (by decide)).trans g2) k42 (hr2.keep kf (by decide) ?_ (hr2.2.1.fr kf (by decide)))⟩
    exact ⟨1, s2, c, s3, l2, cn, lw, pw, ff, (kf 3 (by decide)).trans g3, (kf 4 (by decide)).trans g4, hpw, k9, (kf 10 (by decide)).trans g10, hff, k13, Or.inr ⟨rfl, kl⟩, (kf 14 (by decide)).trans g14, (kf 15 (by decide)).trans g15, hn.elim Or.inl (fun q => Or.inr ⟨q.1, rfl, q.2.2⟩), hc.elim Or.inl (fun q => Or.inr ⟨q.1, rfl, q.2.2⟩)⟩
theorem st_digest (hJ : J h) : SpL G J mX7_digest mX8_digest [] h := by
  obtain ⟨k, n, s, F, T, E, kd, f, l, P, L, mc, hm⟩ := hJ
  have hm2 := hm
  obtain ⟨hp, g2, g42, hr, ⟨⟨fm, g17⟩, ⟨rl, rm, g18, g53, hrr⟩, -⟩, -⟩ := hm
  have hr2 := hr
  obtain ⟨hg, ⟨⟨tt, g47, htt⟩, m50, m51⟩, -⟩ := hr
  obtain ⟨s1, s2, c, s3, l0, cn, lw, pw, ff, g3, g4, hpw, g9, g10, hff, g13, hL, g14, g15, hn, hc⟩ := hg
  have ok := hp.1
  refine ⟨⟨_, g2⟩, 2, 1, _, by decide, by decide, X_digest ok hp.2.1 hp.2.2.1 g2 g3 g4 hpw g9 g10 hff g13 hL g17 g18, fun r h1 e => ?_⟩
  obtain ⟨rfl, k9, ⟨l2, k13, kl⟩, kf⟩ := e
  have k42 := (kf 42 (by decide)).trans g42
  refine ⟨⟨_, rfl⟩, ⟨_, k42⟩, Ct.mono (M_digest ok k42 ((kf 47 (by decide)).trans g47) htt ((kf 53 (by decide)).trans g53)) (fun r2 h2 q => ?_)⟩
  obtain ⟨q1, q2⟩ := q
  subst q2
  refine ⟨?_, hm2.reg kf (by decide) hp ((kf 2 (by decide)).trans g2) k42 (hr2.keep kf (by decide) ?_ (hr2.2.1.fr kf (by decide)))⟩
  · rw [q1]
    unfold a_dig
    by_cases hk : kd = -1
    · rw [if_pos hk, if_pos hk]
    · rw [if_neg hk, if_neg hk]
      obtain ⟨rr, hq⟩ := hrr hk
      congr 2
      exact dgf_cg _ _ _ (fun j _ hj => by rw [(hq j (by omega)).1, (hq j (by omega)).2.1])
  · exact ⟨1, s2, c, s3, l2, cn, lw, pw, ff, (kf 3 (by decide)).trans g3, (kf 4 (by decide)).trans g4, hpw, k9, (kf 10 (by decide)).trans g10, hff, k13, Or.inr ⟨rfl, kl⟩, (kf 14 (by decide)).trans g14, (kf 15 (by decide)).trans g15, hn.elim Or.inl (fun q => Or.inr ⟨q.1, rfl, q.2.2⟩), hc.elim Or.inl (fun q => Or.inr ⟨q.1, rfl, q.2.2⟩)⟩
theorem st_right (hJ : J h) : Sp G J mX7_right mX8_right [] h := by
  obtain ⟨k, n, s, F, T, E, kd, f, l, P, L, mc, hm⟩ := hJ
  have hm2 := hm
  obtain ⟨hp, g2, g42, hr, -⟩ := hm
  have hr2 := hr
  obtain ⟨hg, ⟨⟨tt, g47, htt⟩, ⟨sn, g50⟩, ⟨nn, g51⟩⟩, -⟩ := hr
  obtain ⟨s1, s2, c, s3, g9⟩ := hg.g9
  obtain ⟨ff, g10, hff⟩ := hg.g10
  have ok := hp.1
  refine Sp_of g2 (dm := 1) (by decide) (by decide) (X_right ok hp.2.1 g2 hg.g3 g9 g10 hff) (fun r h1 e => ?_)
  obtain ⟨rfl, e⟩ := e
  subst e
  refine ⟨_, _, rfl, g42, Ct.mono (M_right ok (fun w hw => (hp.2.2.2.1 w hw).1) hp.2.2.2.2.1 g42 g47 htt g50) (fun r2 h2 q => ?_)⟩
  obtain ⟨q1, ⟨s2, q2⟩, q3⟩ := q
  exact ⟨q1, hm2.reg q3 (by decide) hp ((q3 2 (by decide)).trans g2) ((q3 42 (by decide)).trans g42) (hr2.keep q3 (by decide) (hg.mono q3 (by decide)) ⟨⟨tt, (q3 47 (by decide)).trans g47, htt⟩, ⟨s2, q2⟩, ⟨nn, (q3 51 (by decide)).trans g51⟩⟩)⟩
theorem st_cycles (hJ : J h) : Sp G J mX7_cycles mX8_cycles [] h := by
  obtain ⟨k, n, s, F, T, E, kd, f, l, P, L, mc, hm⟩ := hJ
  have hm2 := hm
  obtain ⟨hp, g2, g42, hr, -⟩ := hm
  have ok := hp.1
  refine Sp_of g2 (dm := 1) (by decide) (by decide) (X_cycles ok hp.2.1 hp.2.2.1 hp.pm g2 hr.1) (fun r h1 e => ?_)
  obtain ⟨rfl, hg1, kf⟩ := e
  have k42 := (kf 42 (by decide)).trans g42
  refine ⟨_, _, rfl, k42, Ct.mono (M_cycles ok (fun w hw => (hp.2.2.2.1 w hw).1) hp.2.2.2.2.1 k42 (hr.2.1.fr kf (by decide))) (fun r2 h2 q => ?_)⟩
  obtain ⟨q1, ⟨c2, q2⟩, q3, q4⟩ := q
  have hf := kf.tr2 q4
  exact ⟨q1, hm2.reg hf (by decide) hp ((hf 2 (by decide)).trans g2) q2 (hr.keep hf (by decide) (hg1.mono q4 (by decide)) q3)⟩
theorem st_cycleOf (hJ : J h) (a1 : Int32) : Sp G J mX7_cycleOf mX8_cycleOf [.int a1] h := by
  obtain ⟨k, n, s, F, T, E, kd, f, l, P, L, mc, hm⟩ := hJ
  have hm2 := hm
  obtain ⟨hp, g2, g42, hr, -⟩ := hm
  have ok := hp.1
  refine Sp_of g2 (dm := 2) (by decide) (by decide) (X_cycleOf ok hp.2.1 hp.2.2.1 hp.pm g2 hr.1 a1) (fun r h1 e => ?_)
  obtain ⟨rfl, hg1, kf⟩ := e
  have k42 := (kf 42 (by decide)).trans g42
  refine ⟨_, _, rfl, k42, Ct.mono (M_cycleOf ok (fun w hw => (hp.2.2.2.1 w hw).1) hp.2.2.2.2.1 k42 (hr.2.1.fr kf (by decide)) a1) (fun r2 h2 q => ?_)⟩
  obtain ⟨q1, ⟨c2, q2⟩, q3, q4⟩ := q
  have hf := kf.tr2 q4
  exact ⟨q1, hm2.reg hf (by decide) hp ((hf 2 (by decide)).trans g2) q2 (hr.keep hf (by decide) (hg1.mono q4 (by decide)) q3)⟩
theorem st_cycle (hJ : J h) (a1 a2 : Int32) : Sp G J mX7_cycle mX8_cycle [.int a1, .int a2] h := by
  obtain ⟨k, n, s, F, T, E, kd, f, l, P, L, mc, hm⟩ := hJ
  have hm2 := hm
  obtain ⟨hp, g2, g42, hr, -⟩ := hm
  have ok := hp.1
  refine Sp_of g2 (dm := 1) (by decide) (by decide) (X_cycle ok hp.2.1 hp.2.2.1 hp.pm g2 hr.1 a1 a2) (fun r h1 e => ?_)
  obtain ⟨rfl, hg1, kf⟩ := e
  have k42 := (kf 42 (by decide)).trans g42
  refine ⟨_, _, rfl, k42, Ct.mono (M_cycle ok (fun w hw => (hp.2.2.2.1 w hw).1) hp.2.2.2.2.1 k42 (hr.2.1.fr kf (by decide)) a1 a2) (fun r2 h2 q => ?_)⟩
  obtain ⟨q1, ⟨c2, q2⟩, q3, q4⟩ := q
  have hf := kf.tr2 q4
  exact ⟨q1, hm2.reg hf (by decide) hp ((hf 2 (by decide)).trans g2) q2 (hr.keep hf (by decide) (hg1.mono q4 (by decide)) q3)⟩
theorem JP.sw {k n s E E2 a b : Nat} {F T : Nat → Nat} (hp : JP k n s F T E) (ha : a < k ^ n) (hb : b < k ^ n) (he : a % k ^ (n - 1) = b % k ^ (n - 1)) (hE : E2 ≤ 400) (hr : rt k (F 0) = true) : JP k n s F (sw T a b) E2 := ⟨hp.1, hp.2.1, hp.2.2.1, sw_okT hp.2.2.2.1 ha hb he, (sw_inj ha hb).trans hp.2.2.2.2.1, hE, fun _ => hr⟩
theorem st_exchange (hJ : J h) (a1 a2 : Int32) : Sp G J mX7_exchange mX8_exchange [.int a1, .int a2] h := by
  have hJ2 := hJ
  obtain ⟨k, n, s, F, T, E, kd, f, l, P, L, mc, hm⟩ := hJ
  have hm2 := hm
  obtain ⟨hp, g2, g42, hr, -⟩ := hm
  have ok := hp.1
  have hN := ok.le (Nat.le_refl n)
  by_cases hx : (a1 < 0 ∨ nI (k ^ n) ≤ a1) ∨ (a2 < 0 ∨ nI (k ^ n) ≤ a2)
  · exact Sp_pure hJ2 g2 g42 (by decide) (by decide) (X_exchange_no g2 hr.1.g3 hx) (M_exchange_no ok g42 hx) rfl
  · obtain ⟨a, ha, rfl⟩ := p_pick hN (fun q => hx (Or.inl q))
    obtain ⟨b, hb, rfl⟩ := p_pick hN (fun q => hx (Or.inr q))
    have hr2 := hr
    obtain ⟨hg, hrm, ⟨lf, a3, a4⟩, ⟨ff, a5, a6⟩, ⟨o1, o2, b1, b2, b3, b4, b5⟩, ⟨g, a7⟩, ⟨gg, a8⟩⟩ := hr
    have hE := hp.2.2.2.2.2.1
    have hTl : ∀ w, w < k ^ n → T w < k ^ n := fun w hw => (hp.2.2.2.1 w hw).1
    refine Sp_of g2 (dx := 6) (dm := 2) (by decide) (by decide) (X_exchange ok hp.2.1 hp.2.2.1 hp.pm g2 hg hE b1 b2 ha hb) (fun r h1 e => ?_)
    by_cases hd : ¬ (a ≠ b ∧ a % k ^ (n - 1) = b % k ^ (n - 1))
    · rw [if_pos hd] at e
      obtain ⟨rfl, e⟩ := e
      subst e
      refine ⟨_, _, rfl, g42, Ct.mono (M_exchange ok hTl hp.2.2.2.2.1 g42 hrm hE b3 b4 ha hb) (fun r2 h2 q => ?_)⟩
      rw [if_pos hd] at q
      exact ⟨q.1, by rw [q.2]; exact hJ2⟩
    · rw [if_neg hd] at e
      have hd2 := Decidable.not_not.mp hd
      by_cases hR : rt k (F 0) = false
      · rw [if_pos hR] at e
        obtain ⟨rfl, e⟩ := e
        subst e
        refine ⟨_, _, rfl, g42, Ct.mono (M_exchange ok hTl hp.2.2.2.2.1 g42 hrm hE b3 b4 ha hb) (fun r2 h2 q => ?_)⟩
        rw [if_neg hd, if_pos hR] at q
        obtain ⟨q1, q2, q3, q4⟩ := q
        exact ⟨q1, hm2.reg q4 (by decide) hp ((q4 2 (by decide)).trans g2) q2 (hr2.keep q4 (by decide) (hg.mono q4 (by decide)) q3)⟩
      · rw [if_neg hR] at e
        have hRt : rt k (F 0) = true := by cases hb2 : rt k (F 0) <;> simp_all
        by_cases hE4 : E = 400
        · rw [if_pos hE4] at e
          obtain ⟨rfl, e⟩ := e
          subst e
          refine ⟨_, _, rfl, g42, Ct.mono (M_exchange ok hTl hp.2.2.2.2.1 g42 hrm hE b3 b4 ha hb) (fun r2 h2 q => ?_)⟩
          rw [if_neg hd, if_neg hR, if_pos hE4] at q
          obtain ⟨q1, q2, q3, q4⟩ := q
          exact ⟨q1, hm2.reg q4 (by decide) hp ((q4 2 (by decide)).trans g2) q2 (hr2.keep q4 (by decide) (hg.mono q4 (by decide)) q3)⟩
        · rw [if_neg hE4] at e
          obtain ⟨rfl, hD, k11, k12, kf⟩ := e
          have k42 := (kf 42 (by decide)).trans g42
          refine ⟨_, _, rfl, k42, Ct.mono (M_exchange ok hTl hp.2.2.2.2.1 k42 (hrm.fr kf (by decide)) hE ((kf 48 (by decide)).trans b3) ((kf 49 (by decide)).trans b4) ha hb) (fun r2 h2 q => ?_)⟩
          rw [if_neg hd, if_neg hR, if_neg hE4] at q
          obtain ⟨q1, ⟨c2, q2⟩, q3, q48, q49, q4⟩ := q
          have hf := kf.tr2 q4
          refine ⟨q1, hm2.reg hf (by decide) (hp.sw ha hb hd2.2 (by omega) hRt) ((hf 2 (by decide)).trans g2) q2 ⟨hD.rg.mono q4 (by decide), q3, ⟨lf, (hf 43 (by decide)).trans a3, a4⟩, ⟨ff, (hf 46 (by decide)).trans a5, a6⟩, ⟨_, _, (q4 11 (by decide)).trans k11, (q4 12 (by decide)).trans k12, q48, q49, fun i hi => ?_⟩, ⟨g, (hf 16 (by decide)).trans a7⟩, ⟨gg, (hf 52 (by decide)).trans a8⟩⟩⟩
          by_cases hiE : i = E
          · rw [hiE, pk_us, pk_us]
            exact ⟨a, b, ha, hb, hd2.1, hd2.2, rfl, rfl⟩
          · rw [pk_un hiE, pk_un hiE]
            exact b5 i (by omega)
theorem st_back (hJ : J h) : Sp G J mX7_back mX8_back [] h := by
  have hJ2 := hJ
  obtain ⟨k, n, s, F, T, E, kd, f, l, P, L, mc, hm⟩ := hJ
  have hm2 := hm
  obtain ⟨hp, g2, g42, hr, -⟩ := hm
  have ok := hp.1
  have hr2 := hr
  obtain ⟨hg, hrm, ⟨lf, a3, a4⟩, ⟨ff, a5, a6⟩, ⟨o1, o2, b1, b2, b3, b4, b5⟩, ⟨g, a7⟩, ⟨gg, a8⟩⟩ := hr
  have hE := hp.2.2.2.2.2.1
  match E, hp, hm2, g42, hr2, hg, b5, hE with
  | 0, hp, hm2, g42, hr2, hg, b5, hE =>
    obtain ⟨s1, s2, c, s3, g9⟩ := hg.g9
    exact Sp_pure hJ2 g2 g42 (by decide) (by decide) (X_back_no g2 g9) (M_back_no g42 b3 b4) rfl
  | E + 1, hp, hm2, g42, hr2, hg, b5, hE =>
    have hRt := hp.2.2.2.2.2.2 (by omega)
    obtain ⟨a, b, ha, hb, hab, he, e1, e2⟩ := b5 E (by omega)
    refine Sp_of g2 (dx := 6) (dm := 1) (by decide) (by decide) (X_back ok hp.2.1 hp.2.2.1 (hp.pm hRt) g2 hg (by omega) b1 b2 e1 e2 ha hb hab) (fun r h1 e => ?_)
    obtain ⟨rfl, hD, kf⟩ := e
    have k42 := (kf 42 (by decide)).trans g42
    refine ⟨_, _, rfl, k42, Ct.mono (M_back ok k42 (hrm.fr kf (by decide)) (by omega) ((kf 48 (by decide)).trans b3) ((kf 49 (by decide)).trans b4) e1 e2 ha hb) (fun r2 h2 q => ?_)⟩
    obtain ⟨q1, q2, q3, q4⟩ := q
    have hf := kf.tr2 q4
    exact ⟨q1, hm2.reg hf (by decide) (hp.sw ha hb he (by omega) hRt) ((hf 2 (by decide)).trans g2) q2 ⟨hD.rg.mono q4 (by decide), q3, ⟨lf, (hf 43 (by decide)).trans a3, a4⟩, ⟨ff, (hf 46 (by decide)).trans a5, a6⟩, ⟨o1, o2, (hf 11 (by decide)).trans b1, (hf 12 (by decide)).trans b2, (hf 48 (by decide)).trans b3, (hf 49 (by decide)).trans b4, fun i hi => b5 i (by omega)⟩, ⟨g, (hf 16 (by decide)).trans a7⟩, ⟨gg, (hf 52 (by decide)).trans a8⟩⟩⟩
theorem st_join (hJ : J h) : Sp G J mX7_join mX8_join [] h := by
  obtain ⟨k, n, s, F, T, E, kd, f, l, P, L, mc, hm⟩ := hJ
  have hm2 := hm
  obtain ⟨hp, g2, g42, hr, -⟩ := hm
  have ok := hp.1
  have hN := ok.le (Nat.le_refl n)
  have hr2 := hr
  obtain ⟨hg, hrm, ⟨lf, a3, a4⟩, ⟨ff, a5, a6⟩, ⟨o1, o2, b1, b2, b3, b4, b5⟩, ⟨g, a7⟩, ⟨gg, a8⟩⟩ := hr
  have hE := hp.2.2.2.2.2.1
  have hTl : ∀ w, w < k ^ n → T w < k ^ n := fun w hw => (hp.2.2.2.1 w hw).1
  refine Sp_of g2 (dx := 4) (dm := 2) (by decide) (by decide) (X_join ok hp.2.1 hp.2.2.1 hp.pm hp.2.2.2.1 g2 hg hE b1 b2 a7) (fun r h1 e => ?_)
  by_cases hR : rt k (F 0) = false
  · rw [if_pos hR] at e
    obtain ⟨rfl, e⟩ := e
    subst e
    refine ⟨_, _, rfl, g42, Ct.mono (M_join ok hTl hp.2.2.2.2.1 hp.2.2.2.1 g42 hrm hE b3 b4 a8) (fun r2 h2 q => ?_)⟩
    rw [if_pos hR] at q
    obtain ⟨q1, q2, q3, q4⟩ := q
    exact ⟨q1, hm2.reg q4 (by decide) hp ((q4 2 (by decide)).trans g2) q2 (hr2.keep q4 (by decide) (hg.mono q4 (by decide)) q3)⟩
  · rw [if_neg hR] at e
    have hRt : rt k (F 0) = true := by cases hb2 : rt k (F 0) <;> simp_all
    by_cases hfull : 400 < E + nQ T (k ^ n) - 1
    · rw [if_pos hfull] at e
      obtain ⟨rfl, hg1, kf⟩ := e
      have k42 := (kf 42 (by decide)).trans g42
      refine ⟨_, _, rfl, k42, Ct.mono (M_join ok hTl hp.2.2.2.2.1 hp.2.2.2.1 k42 (hrm.fr kf (by decide)) hE ((kf 48 (by decide)).trans b3) ((kf 49 (by decide)).trans b4) ((kf 52 (by decide)).trans a8)) (fun r2 h2 q => ?_)⟩
      rw [if_neg hR, if_pos hfull] at q
      obtain ⟨q1, ⟨c2, q2⟩, q3, q48, q49, q52, q4⟩ := q
      have hf := kf.tr2 q4
      exact ⟨q1, hm2.reg hf (by decide) hp ((hf 2 (by decide)).trans g2) q2 ⟨hg1.mono q4 (by decide), q3, ⟨lf, (hf 43 (by decide)).trans a3, a4⟩, ⟨ff, (hf 46 (by decide)).trans a5, a6⟩, ⟨o1, o2, (hf 11 (by decide)).trans b1, (hf 12 (by decide)).trans b2, q48, q49, b5⟩, ⟨g, (hf 16 (by decide)).trans a7⟩, q52⟩⟩
    · rw [if_neg hfull] at e
      obtain ⟨W, hW, rfl, hg1, k11, k12, ⟨g3, k16⟩, kf⟩ := e
      have k42 := (kf 42 (by decide)).trans g42
      refine ⟨_, _, rfl, k42, Ct.mono (M_join ok hTl hp.2.2.2.2.1 hp.2.2.2.1 k42 (hrm.fr kf (by decide)) hE ((kf 48 (by decide)).trans b3) ((kf 49 (by decide)).trans b4) ((kf 52 (by decide)).trans a8)) (fun r2 h2 q => ?_)⟩
      rw [if_neg hR, if_neg hfull] at q
      obtain ⟨W2, hW2, q1, ⟨c2, q2⟩, q3, q48, q49, q52, q4⟩ := q
      have hWW : W2 = W := hW2.trans hW.symm
      subst hWW
      have hf := kf.tr2 q4
      have hle : k ^ (n - 1) ≤ k ^ n := Nat.pow_le_pow_right ok.pos (by omega)
      have hpm := hp.pm hRt
      have hend := jn_end (E := E) (o1 := o1) (o2 := o2) ok hpm hp.2.2.2.1
      have hok := jn_okT (k ^ n - k ^ (n - 1)) 0 T E o1 o2 hp.2.2.2.1 (by omega)
      have hpm2 := (jn_sum (hi := k ^ (n - 1)) hN (k ^ n - k ^ (n - 1)) 0 T E o1 o2 hpm (by omega)).1
      have hex := jn_ex (hi := k ^ (n - 1)) (N := k ^ n) (k ^ n - k ^ (n - 1)) 0 T E o1 o2 (by omega) b5 (ok.pp (n - 1))
      rw [← hW2] at hend hok hpm2 hex
      refine ⟨q1, hm2.reg hf (by decide) ⟨ok, hp.2.1, hp.2.2.1, hok, ⟨fun _ => hRt, fun _ => hpm2.2⟩, by omega, fun _ => hRt⟩ ((hf 2 (by decide)).trans g2) q2 ⟨hg1.mono q4 (by decide), q3, ⟨lf, (hf 43 (by decide)).trans a3, a4⟩, ⟨ff, (hf 46 (by decide)).trans a5, a6⟩, ⟨_, _, (q4 11 (by decide)).trans k11, (q4 12 (by decide)).trans k12, q48, q49, hex⟩, ⟨g3, (q4 16 (by decide)).trans k16⟩, q52⟩⟩
end ST2
