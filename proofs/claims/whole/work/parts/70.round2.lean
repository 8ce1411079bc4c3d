/-! the round of a cycle: both answers -/
section RY
variable {G : gx} {k n s : Nat} {F T : Nat → Nat} {e f l : Int32}
theorem C_leadsG {h : ah} (ok : okW k n) (hF : okF k F) (hs : s < k) (hg : RG k n s F T e h) : Ct G mX2_leads 1 0 0 [.ref 9] h (fun r h2 => r = some (.ref 13) ∧ RG k n s F T e h2 ∧ (∃ l2, h2 13 = aI 20000 l2 ∧ ∀ w, w < k ^ n → l2 w = nI (T w)) ∧ Fr [9, 13] h h2) := by
  obtain ⟨s1, s2, c, s3, l0, cn, lw, pw, ff, g3, g4, hp, g9, g10, hff, g13, hL, g14, g15, hn, hc⟩ := hg
  refine Ct.mono (C_leads ok hF hs g3 g4 hp g9 g10 hff g13 hL) (fun r h2 q => ?_)
  obtain ⟨rfl, k9, ⟨l2, k13, kl⟩, kf⟩ := q
  refine ⟨rfl, ⟨1, s2, c, s3, l2, cn, lw, pw, ff, (kf 3 (by decide)).trans g3, (kf 4 (by decide)).trans g4, hp, k9, (kf 10 (by decide)).trans g10, hff, k13, Or.inr ⟨rfl, kl⟩, (kf 14 (by decide)).trans g14, (kf 15 (by decide)).trans g15, hn.elim Or.inl (fun q => Or.inr ⟨q.1, rfl, q.2.2⟩), hc.elim Or.inl (fun q => Or.inr ⟨q.1, rfl, q.2.2⟩)⟩, ⟨l2, k13, kl⟩, kf⟩
theorem RG.mono {h h2 : ah} (hg : RG k n s F T e h) {X : List Nat} (hf : Fr X h h2) (hx : ∀ j, j ∈ [3, 4, 9, 10, 13, 14, 15] → j ∉ X) : RG k n s F T e h2 := by
  obtain ⟨s1, s2, c, s3, l0, cn, lw, pw, ff, g3, g4, hp, g9, g10, hff, g13, hL, g14, g15, hn, hc⟩ := hg
  exact ⟨s1, s2, c, s3, l0, cn, lw, pw, ff, (hf 3 (hx 3 (by decide))).trans g3, (hf 4 (hx 4 (by decide))).trans g4, hp, (hf 9 (hx 9 (by decide))).trans g9, (hf 10 (hx 10 (by decide))).trans g10, hff, (hf 13 (hx 13 (by decide))).trans g13, hL, (hf 14 (hx 14 (by decide))).trans g14, (hf 15 (hx 15 (by decide))).trans g15, hn, hc⟩
theorem X_round_bad {h : ah} {x : Int32} (hx : x.toInt < 0 ∨ 2 < x.toInt) : Ct G mX7_round 5 0 0 [.ref 2, .int x] h (Rv (.int (-2)) h) := by
  refine Ct_of (by decide +kernel) (Nat.le_of_ble_eq_true rfl) (tX7_round_0 ?_)
  exact V_tabOut (t := 104) dX7_round_1 hx (by decide) (tX7_round_104 ⟨rfl, rfl⟩)
theorem X_round_cyc {h : ah} {kd fm : Int32} {rl pl : Nat → Int32} (ok : okW k n) (hF : okF k F) (hs : s < k) (hT : rt k (F 0) = true → pm (k ^ n) T) (g2 : h 2 = cX f l) (hg : RG k n s F T e h) (g17 : h 17 = cO kd fm) (g18 : h 18 = aB 20000 rl) (g19 : h 19 = aI 20000 pl) : Ct G mX7_round 5 0 0 [.ref 2, .int 2] h (fun r h2 => if rt k (F 0) = true ∧ nQ T (k ^ n) = 1 then r = some (.int (nI (k ^ n))) ∧ RG k n s F T e h2 ∧ h2 17 = cO 2 fm ∧ (∃ r2, h2 18 = aB 20000 r2 ∧ ∀ j, j < k ^ n → r2 j = nI (itr T j 0 / k ^ (n - 1))) ∧ h2 19 = aI 20000 (plw (fun j => itr T j 0) (k ^ n) 0 pl) ∧ Fr [9, 13, 14, 15, 17, 18, 19] h h2 else r = some (.int (-3)) ∧ RG k n s F T e h2 ∧ Fr [9, 13, 14, 15] h h2) := by
  have hN := ok.le (Nat.le_refl n)
  obtain ⟨s1, s2, c, s3, g9⟩ := hg.g9
  refine Ct_of (by decide +kernel) (Nat.le_of_ble_eq_true rfl) (tX7_round_0 ?_)
  refine V_tabIn (off := 57) (t := 58) dX7_round_1 (by decide) (by decide) (by decide +kernel) (by decide) ?_
  refine tX7_round_58 g2 ?_
  refine cX7_round_62 (k := 7) (C_right ok hF hg (d := 0)) g9 ⟨by decide, by decide⟩ (Nat.le_of_ble_eq_true rfl) ⟨Nat.le_refl _, Nat.le_refl _⟩ (fun r h2 e => ?_)
  obtain ⟨rfl, e⟩ := e; replace e := e.symm; subst e
  refine tX7_round_65 g2 (fun z => ?_) (fun z => ?_)
  · rw [ri_0] at z
    rw [if_neg (fun q => by rw [z] at q; exact absurd q.1 (by decide))]
    exact ⟨rfl, hg, Fr.rf⟩
  · have hr := ri_1 z
    have hpm := hT hr
    have hq := nQ_le hpm hN
    refine cX7_round_72 (k := 7) (C_howL ok hF hs hpm hg) g9 ⟨by decide, by decide⟩ (Nat.le_of_ble_eq_true rfl) ⟨Nat.le_refl _, Nat.le_refl _⟩ (fun r h3 e3 => ?_)
    obtain ⟨rfl, hd, hf⟩ := e3
    have hd2 := hd.rg
    obtain ⟨s1, s2, c, s3, k9⟩ := hd2.g9
    refine tX7_round_75 ((hf 2 (by decide)).trans g2) (fun z2 => ?_) (fun z2 => ?_)
    · have hq1 : nQ T (k ^ n) = 1 := (nI_eq (b := 1) (by omega) (by omega)).mp z2
      have hcond : rt k (F 0) = true ∧ nQ T (k ^ n) = 1 := ⟨hr, hq1⟩
      simp only [if_pos hcond]
      refine cX7_round_90 (k := 7) (C_leadsG ok hF hs hd2) k9 ⟨by decide, by decide⟩ (Nat.le_of_ble_eq_true rfl) ⟨Nat.le_refl _, Nat.le_refl _⟩ (fun r h4 e3 => ?_)
      obtain ⟨rfl, hd4, ⟨l2, k13, kl⟩, hf4⟩ := e3
      have hff : Fr [9, 13, 14, 15] h h4 := Fr.tr hf hf4 (by decide)
      have k17 := (hff 17 (by decide)).trans g17
      refine cX7_round_93 (k := 15) (C_becomeCycle ok hpm.1 hd4.g3 k13 kl k17 ((hff 18 (by decide)).trans g18) ((hff 19 (by decide)).trans g19) (d := 0)) k17 ⟨by decide, by decide⟩ (Nat.le_of_ble_eq_true rfl) ⟨Nat.le_refl _, Nat.le_refl _⟩ (fun r h5 e3 => ?_)
      obtain ⟨rfl, k175, k18, k19, hf5⟩ := e3
      have hfin : Fr [9, 13, 14, 15, 17, 18, 19] h h5 := Fr.tr (hff.mono (by decide)) hf5 (by decide)
      exact tX7_round_96 ((hfin 2 (by decide)).trans g2) ((hfin 3 (by decide)).trans hg.g3) ⟨rfl, hd4.mono hf5 (by decide), k175, k18, k19, hfin⟩
    · have hq1 : ¬ nQ T (k ^ n) = 1 := fun q => z2 (by rw [q]; rfl)
      rw [if_neg (fun q => hq1 q.2)]
      exact ⟨rfl, hd2, hf⟩
end RY
section MRY
variable {G : gx} {h : ah} {k n : Nat} {ms mx mc mw ml mf mp mg : Int32} {T : Nat → Nat} {R : Bool}
theorem k_pick (x : Int32) : (x.toInt < 0 ∨ 2 < x.toInt) ∨ x = 0 ∨ x = 1 ∨ x = 2 := by
  by_cases hb : x.toInt < 0 ∨ 2 < x.toInt
  · exact Or.inl hb
  · refine Or.inr ?_
    obtain ⟨q, q1, rfl⟩ := nI_of2 (x := x) (M := 2) (n := 2) (by decide) (fun q => hb (Or.inl (by rw [Int32.lt_iff_toInt_lt] at q; exact q))) (Int32.not_lt.mp (fun q => hb (Or.inr (by rw [Int32.lt_iff_toInt_lt] at q; exact q))))
    match q, q1 with
    | 0, _ => exact Or.inl rfl
    | 1, _ => exact Or.inr (Or.inl rfl)
    | 2, _ => exact Or.inr (Or.inr rfl)
theorem k_in (x : Int32) : (x.toInt64 < (0 : Int64) ∨ (2 : Int64) < x.toInt64) ↔ (x.toInt < 0 ∨ 2 < x.toInt) := by
  rw [i64_a 0 2 0 2 (by decide) (by decide) x, Int32.lt_iff_toInt_lt, Int32.lt_iff_toInt_lt]
  exact Iff.rfl
theorem M_round_bad {x : Int32} (hx : x.toInt < 0 ∨ 2 < x.toInt) : Ct G mX8_round 3 0 0 [.ref 42, .int x] h (Rv (.int (-2)) h) := by
  refine Ct_of (by decide +kernel) (Nat.le_of_ble_eq_true rfl) (tX8_round_0 ?_)
  refine cX8_round_6 (C_in (d := 0) _ _ _) ⟨by decide, by decide⟩ (Nat.le_of_ble_eq_true rfl) ⟨Nat.le_refl _, Nat.le_refl _⟩ (fun r h2 e => ?_)
  obtain ⟨rfl, e⟩ := e; replace e := e.symm; subst e
  have hb := (k_in x).mpr hx
  exact tX8_round_9 (fun z => absurd ((z01 _).mpr hb) z) (fun z => absurd ((z01 _).mpr hb) z) (fun z => absurd ((z01 _).mpr hb) z) (fun z => absurd ((z01 _).mpr hb) z) (fun _ => ⟨rfl, rfl⟩)
theorem M_round_cyc {rl pl : Nat → Int32} (ok : okW k n) (hT : ∀ w, w < k ^ n → T w < k ^ n) (hR : inj (k ^ n) T ↔ R = true) (ht : okT k n T) (g42 : h 42 = cM (nI k) (nI n) (nI (k ^ n)) ms mx mc mw ml mf mp mg) (hm : RM k n T h) (g53 : h 53 = aI 20000 rl) (g54 : h 54 = aI 20000 pl) : Ct G mX8_round 3 0 0 [.ref 42, .int 2] h (fun r h2 => if R = true ∧ nQ T (k ^ n) = 1 then r = some (.int (nI (k ^ n))) ∧ (∃ c2, h2 42 = cM (nI k) (nI n) (nI (k ^ n)) ms mx c2 2 ml mf mp mg) ∧ RM k n T h2 ∧ (∃ r2, h2 53 = aI 20000 r2 ∧ ∀ j, j < k ^ n → r2 j = nI (itr T j 0 / k ^ (n - 1))) ∧ h2 54 = aI 20000 (plw (fun j => itr T j 0) (k ^ n) 0 pl) ∧ Fr [42, 50, 51, 53, 54] h h2 else r = some (.int (-3)) ∧ (∃ c2, h2 42 = cM (nI k) (nI n) (nI (k ^ n)) ms mx c2 mw ml mf mp mg) ∧ RM k n T h2 ∧ Fr [42, 50, 51] h h2) := by
  have hN := ok.le (Nat.le_refl n)
  have hk5 := ok.2.1
  have h0 := ok.pp n
  have hp := ok.pp (n - 1)
  have hhi := ok.le (i := n - 1) (by omega)
  refine Ct_of (by decide +kernel) (Nat.le_of_ble_eq_true rfl) (tX8_round_0 ?_)
  refine cX8_round_6 (C_in (d := 0) _ _ _) ⟨by decide, by decide⟩ (Nat.le_of_ble_eq_true rfl) ⟨Nat.le_refl _, Nat.le_refl _⟩ (fun r h2 e => ?_)
  obtain ⟨rfl, e⟩ := e; replace e := e.symm; subst e
  have hnb : ¬ ((2 : Int32).toInt64 < (0 : Int64) ∨ (2 : Int64) < (2 : Int32).toInt64) := by decide
  refine tX8_round_9 (fun _ z => absurd rfl z) (fun _ z => absurd rfl z) (fun _ z => absurd rfl z) (fun _ _ => ?_) (fun z => absurd ((z01 _).mp z) hnb)
  refine cX8_round_21 (k := 40) (M_isR ok hT hR g42 hm (d := 0)) g42 ⟨by decide, by decide⟩ (Nat.le_of_ble_eq_true rfl) ⟨Nat.le_refl _, Nat.le_refl _⟩ (fun r h1 e => ?_)
  obtain ⟨rfl, hm1, hf⟩ := e
  have k42 := (hf 42 (by decide)).trans g42
  refine tX8_round_24 (fun z => ?_) (fun z => ?_)
  · have hr := ri_1 z
    have hpm : pm (k ^ n) T := ⟨hT, hR.mpr hr⟩
    have hq := nQ_le hpm hN
    have hq0 := nQ_pos hpm hN h0
    refine cX8_round_31 (k := 40) (M_fC ok hpm k42 hm1 (d := 0)) k42 ⟨by decide, by decide⟩ (Nat.le_of_ble_eq_true rfl) ⟨Nat.le_refl _, Nat.le_refl _⟩ (fun r h2 e => ?_)
    obtain ⟨rfl, k422, -, hm2, hf2⟩ := e
    have hff : Fr [42, 50, 51] h h2 := Fr.tr (hf.mono (by decide)) hf2 (by decide)
    refine tX8_round_34 k422 (fun z2 _ _ => ?_) (fun _ _ z => absurd z (by decide)) (fun _ z => absurd z (by decide)) (fun z2 => ?_)
    · have z3 := (nI_leI (b := 1) (by omega) (by omega)).mp z2
      have hq1 : nQ T (k ^ n) = 1 := by omega
      have hcond : R = true ∧ nQ T (k ^ n) = 1 := ⟨hr, hq1⟩
      simp only [if_pos hcond]
      obtain ⟨⟨tt, m47, mt⟩, ⟨sn, m50⟩, ⟨nn, m51⟩⟩ := hm2
      have hW := cyc_wv ok hpm ht hq1
      generalize hQ : (fun (r : Option Value) (h2 : ah) => r = some (.int (nI (k ^ n))) ∧ (∃ c2, h2 42 = cM (nI k) (nI n) (nI (k ^ n)) ms mx c2 2 ml mf mp mg) ∧ RM k n T h2 ∧ (∃ r2, h2 53 = aI 20000 r2 ∧ ∀ j, j < k ^ n → r2 j = nI (itr T j 0 / k ^ (n - 1))) ∧ h2 54 = aI 20000 (plw (fun j => itr T j 0) (k ^ n) 0 pl) ∧ Fr [42, 50, 51, 53, 54] h h2) = Q
      have key : ∀ m i (hh : ah) (r2 : Nat → Int32), i + m = k ^ n → hh 53 = aI 20000 r2 → (∀ j, j < i → r2 j = nI (itr T j 0 / k ^ (n - 1))) → Fr [53] h2 hh → V G mX8_round (3, 0, 0, 0 + 0 + 0 + 0, 0 + 0 + 0 + 0) 72 [some (.ref 42), some (.int 2), some (.int (nI (itr T i 0))), some (.int (nI i))] [] hh Q := by
        intro m
        induction m with
        | zero =>
          intro i hh r2 hi c53 cr cf
          have kle : nI (k ^ n) ≤ nI i := nI_le (by omega) (by omega)
          have c42 := (cf 42 (by decide)).trans k422
          have c47 := (cf 47 (by decide)).trans m47
          refine tX8_round_72 c42 c53 c47 (fun _ => ?_) (fun z => absurd kle z) (fun z => absurd kle z) (fun z => absurd kle z) (fun z => absurd kle z) (fun z => absurd kle z)
          refine M_placesV (rr := fun j => itr T j 0 / k ^ (n - 1)) ok (up_s _ _ _) ((up_n _ _ (by decide)).trans c53) (fun j hj => ⟨cr j (by omega), hi_lt ok (itr_lt hpm h0 j)⟩) ((up_n _ _ (by decide)).trans ((cf 54 (by decide)).trans ((hff 54 (by decide)).trans g54))) ?_
          rw [← hQ]
          refine ⟨rfl, ⟨_, (up_n _ _ (by decide)).trans (up_s _ _ _)⟩, ⟨⟨tt, c47, mt⟩, ⟨sn, (cf 50 (by decide)).trans m50⟩, ⟨nn, (cf 51 (by decide)).trans m51⟩⟩, ⟨r2, c53, fun j hj => cr j (by omega)⟩, ?_, ?_⟩
          · rw [up_s, plw_cg (W2 := fun j => itr T j 0) (k ^ n) 0 pl (fun j _ _ => hW j)]
          · exact Fr.up (Fr.up (Fr.tr (hff.mono (by decide)) cf (by decide)) (by decide)) (by decide)
        | succ m ih =>
          intro i hh r2 hi c53 cr cf
          have hti := itr_lt hpm h0 i
          have c42 := (cf 42 (by decide)).trans k422
          have c47 := (cf 47 (by decide)).trans m47
          refine tX8_round_72 c42 c53 c47 (fun z => absurd z (nI_ge (by omega) (by omega))) (fun _ => nI_n0 ok.pos (by omega)) (fun _ => by rw [hi_eq ok]; exact nI_n0 hp hhi) (fun _ => vp_in_nI (by omega) (by decide)) (fun _ => vp_in_nI (by omega) (by decide)) (fun _ => ?_)
          rw [hi_eq ok, pk_div (by omega) hp (by omega), nI_clamp (n := itr T i 0) (by omega), nI_clamp (n := i) (by omega), mt _ hti, nI_1]
          refine ih (i + 1) _ _ (by omega) (up_s _ _ _) (fun j hj => ?_) (cf.up (by decide))
          by_cases hji : j = i
          · rw [hji, pk_us]
          · rw [pk_un hji]; exact cr j (by omega)
      exact key (k ^ n) 0 h2 rl (by omega) ((hff 53 (by decide)).trans g53) (fun j hj => absurd hj (Nat.not_lt_zero j)) Fr.rf
    · have hq1 : ¬ nQ T (k ^ n) = 1 := fun q => z2 (by rw [q]; decide)
      rw [if_neg (fun q => hq1 q.2)]
      exact ⟨rfl, ⟨_, k422⟩, hm2, hff⟩
  · rw [ri_0] at z
    rw [if_neg (fun q => by rw [z] at q; exact absurd q.1 (by decide))]
    exact ⟨rfl, ⟨_, k42⟩, hm1, hf.mono (by decide)⟩
end MRY
