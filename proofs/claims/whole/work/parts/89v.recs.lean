/-! RECURRENCE: the step -/
theorem k4_e {k : Nat} (hk : k ≤ 5) : (nI k = (4 : Int32)) ↔ k = 4 := by
  rw [show (4 : Int32) = nI 4 by decide +kernel]
  exact nI_eq (by omega) (by omega)
section XRC
variable {G : gx} {h : ah} {k n : Nat} {f l : Int32} {tp : Nat → Option Nat}
theorem X_recurrence_no (g2 : h 2 = cX f l) (g23 : h 23 = (4, .inr (4, .inr (.inr tp)))) {x : Int32} (hb : x < 0 ∨ 4 ≤ x) : Ct G mX7_recurrence 3 0 0 [.ref 2, .int x] h (Rv (.int (-2)) h) := by
  refine Ct_of (by decide +kernel) (Nat.le_of_ble_eq_true rfl) (tX7_recurrence_0 ?_)
  refine cX7_recurrence_1 (C_isTape (d := 0) _) ⟨by decide, by decide⟩ (Nat.le_of_ble_eq_true rfl) ⟨Nat.le_refl _, Nat.le_refl _⟩ (fun r h2 e => ?_)
  obtain ⟨rfl, e⟩ := e; replace e := e.symm; subst e
  exact tX7_recurrence_4 (ta := 0) g2 g23 (fun e => absurd ((z01 _).mpr hb) e) (fun e => absurd ((z01 _).mpr hb) e) (fun e => absurd ((z01 _).mpr hb) e) (fun _ => ⟨rfl, rfl⟩)
theorem X_recurrence {t N : Nat} {fm a0 b0_ : Int32} {it na ra sp : Nat → Int32} {s : Nat → Nat} (ok : okW k n) (g2 : h 2 = cX f l) (g3 : h 3 = cW k n) (g23 : h 23 = (4, .inr (4, .inr (.inr tp)))) (htp : isTp tp) (ht : t < 4) (hN : N ≤ 200) (gt : h (3 * t + 22 + 2) = cTt t fm (nI N)) (gi : h (3 * t + 23 + 2) = aI 200 it) (g38 : h 38 = (1, .inl [.ref 39, .ref 40, .ref 41, .int a0, .int b0_])) (g39 : h 39 = aI 201 na) (g40 : h 40 = aI 201 ra) (g41 : h 41 = aI 201 sp) (his : ab k it 0 N = true → ∀ j, j < N → it j = nI (s j) ∧ s j < k) : Ct G mX7_recurrence 3 0 0 [.ref 2, .int (nI t)] h (fun r h2 => if fm = -1 then r = some (.int (-11)) ∧ h2 = va_up h 2 (cX f 1) else if k = 4 ∨ ab k it 0 N = false then r = some (.int (-3)) ∧ h2 = h else r = some (.int (nI (bm k s N).2.2.1)) ∧ h2 38 = cC (bm k s N).2.2.1 k ∧ (∃ f2, h2 39 = aI 201 f2 ∧ isA 201 f2 (bmz k s N)) ∧ (∃ f3, h2 40 = aI 201 f3) ∧ (∃ f4, h2 41 = aI 201 f4) ∧ Fr [38, 39, 40, 41] h h2) := by
  have hk5 := ok.2.1
  have hk2 := ok.1
  refine Ct_of (by decide +kernel) (Nat.le_of_ble_eq_true rfl) (tX7_recurrence_0 ?_)
  refine cX7_recurrence_1 (C_isTape (d := 0) _) ⟨by decide, by decide⟩ (Nat.le_of_ble_eq_true rfl) ⟨Nat.le_refl _, Nat.le_refl _⟩ (fun r h2 e => ?_)
  obtain ⟨rfl, e⟩ := e; replace e := e.symm; subst e
  refine tX7_recurrence_4 (ta := 3 * t + 22) g2 g23 (fun _ => vp_in_nI ht (by decide)) (fun _ => by rw [nI_clamp (by omega)]; exact htp t ht) (fun _ => ?_) (fun e => absurd ((z01 _).mp e) (t4_no ht))
  refine cX7_recurrence_18 (C_isLost gt (d := 0)) gt ⟨by decide, by decide⟩ (Nat.le_of_ble_eq_true rfl) ⟨Nat.le_refl _, Nat.le_refl _⟩ (fun r h3 e => ?_)
  obtain ⟨rfl, e⟩ := e; replace e := e.symm; subst e
  refine tX7_recurrence_21 g2 g3 (fun e1 e2 => ?_) (fun e1 e2 => ?_) (fun e1 => ?_)
  · have hfm : ¬ fm = -1 := fun q => by rw [if_pos q] at e1; exact absurd e1 (by decide)
    have hk4 : k = 4 := (k4_e hk5).mp e2
    rw [if_neg hfm, if_pos (Or.inl hk4)]
    exact ⟨rfl, rfl⟩
  · have hfm : ¬ fm = -1 := fun q => by rw [if_pos q] at e1; exact absurd e1 (by decide)
    have hk4 : ¬ k = 4 := fun q => e2 ((k4_e hk5).mpr q)
    simp only [if_neg hfm]
    refine cX7_recurrence_42 (C_hasBlanks g3 hN gt gi) gt ⟨by decide, by decide⟩ (Nat.le_of_ble_eq_true rfl) ⟨Nat.le_refl _, Nat.le_refl _⟩ (fun r h4 e => ?_)
    obtain ⟨rfl, e⟩ := e; replace e := e.symm; subst e
    refine tX7_recurrence_45 g2 gt g3 (fun e3 => ?_) (fun e3 => ?_)
    · rw [s10] at e3
      have hc : ¬ (k = 4 ∨ ab k it 0 N = false) := fun q => q.elim hk4 (fun q => by rw [e3] at q; exact absurd q (by decide))
      simp only [if_neg hc]
      refine cX7_recurrence_70 (k := 36) (C_learn (p := 3 * t + 23) (s := s) (by omega) hN g38 g39 g40 g41 gi (by omega) (his e3)) g38 ⟨by decide, by decide⟩ (Nat.le_of_ble_eq_true rfl) ⟨Nat.le_refl _, Nat.le_refl _⟩ (fun r h5 e => ?_)
      obtain ⟨rfl, e⟩ := e
      exact tX7_recurrence_73 ⟨rfl, e⟩
    · rw [s10] at e3
      rw [if_pos (Or.inr (by cases hb : ab k it 0 N <;> simp_all))]
      exact ⟨rfl, rfl⟩
  · have hfm : fm = -1 := Decidable.not_not.mp (fun q => e1 (by rw [if_neg q]))
    refine cX7_recurrence_26 (k := 0) (C_finding g2 _ (d := 0)) g2 ⟨by decide, by decide⟩ (Nat.le_of_ble_eq_true rfl) ⟨Nat.le_refl _, Nat.le_refl _⟩ (fun r h5 e3 => ?_)
    obtain ⟨rfl, e3⟩ := e3; replace e3 := e3.symm; subst e3
    refine tX7_recurrence_29 ?_
    rw [if_pos hfm]
    exact ⟨by rw [show (-10 : Int32) - 1 = -11 by decide], rfl⟩
end XRC
section MRC
variable {G : gx} {h : ah} {k n : Nat} {sx mx mc mw ml mf mp mg : Int32} {fs sz it : Nat → Int32}
theorem M_recurrence_no (g42 : h 42 = cM (nI k) (nI n) (nI (k ^ n)) sx mx mc mw ml mf mp mg) (g55 : h 55 = aI 4 fs) {x : Int32} (hb : x < 0 ∨ 4 ≤ x) : Ct G mX8_recurrence 3 0 0 [.ref 42, .int x] h (Rv (.int (-2)) h) := by
  refine Ct_of (by decide +kernel) (Nat.le_of_ble_eq_true rfl) (tX8_recurrence_0 ?_)
  refine cX8_recurrence_1 (M_isTape _) ⟨by decide, by decide⟩ (Nat.le_of_ble_eq_true rfl) ⟨Nat.le_refl _, Nat.le_refl _⟩ (fun r h2 e => ?_)
  obtain ⟨rfl, e⟩ := e; replace e := e.symm; subst e
  exact tX8_recurrence_4 g42 g55 (fun e => absurd ((z01 _).mpr hb) e) (fun e => absurd ((z01 _).mpr hb) e) (fun e => absurd ((z01 _).mpr hb) e) (fun e => absurd ((z01 _).mpr hb) e) (fun _ => ⟨rfl, rfl⟩)
theorem M_recurrence {t N : Nat} {to n1 n2 n3 mt : Nat → Int32} {s : Nat → Nat} (ok : okW k n) (g42 : h 42 = cM (nI k) (nI n) (nI (k ^ n)) sx mx mc mw ml mf mp mg) (g55 : h 55 = aI 4 fs) (g56 : h 56 = aI 4 sz) (g57 : h 57 = aI 800 it) (g60 : h 60 = aI 201 to) (g61 : h 61 = aI 202 n1) (g62 : h 62 = aI 202 n2) (g63 : h 63 = aI 202 n3) (g64 : h 64 = aI 40602 mt) (ht : t < 4) (hN : N ≤ 200) (hneg : 0 ≤ fs t ↔ ¬ fs t = -1) (hsz : sz t = nI N) (his : ab k it (200 * t) N = true → ∀ j, j < N → it (200 * t + j) = nI (s j) ∧ s j < k) : Ct G mX8_recurrence 3 0 0 [.ref 42, .int (nI t)] h (fun r h2 => if fs t = -1 then r = some (.int (-11)) ∧ h2 = va_up h 42 (cM (nI k) (nI n) (nI (k ^ n)) sx mx mc mw 1 mf mp mg) else if k = 4 ∨ ab k it (200 * t) N = false then r = some (.int (-3)) ∧ h2 = h else r = some (.int (nI (bm k s N).2.2.1)) ∧ h2 42 = cM (nI k) (nI n) (nI (k ^ n)) sx mx mc mw ml mf mp (nI (bm k s N).2.2.1) ∧ (∃ M dn kp g, SI k (N - (bm k s N).2.2.1) (bm k s N).2.2.1 (mz0 s (bm k s N).2.2.1) 0 M dn kp ∧ h2 60 = aI 201 g ∧ ∀ c, c < (bm k s N).2.2.1 → g (c + 1) = nI (tlz kp M (bm k s N).2.2.1 c)) ∧ (∃ f, h2 61 = aI 202 f) ∧ (∃ f, h2 62 = aI 202 f) ∧ (∃ f, h2 63 = aI 202 f) ∧ (∃ f, h2 64 = aI 40602 f) ∧ Fr [42, 60, 61, 62, 63, 64] h h2) := by
  have hk5 := ok.2.1
  have hk2 := ok.1
  have ct : (nI t).toNatClampNeg = t := nI_clamp (by omega)
  refine Ct_of (by decide +kernel) (Nat.le_of_ble_eq_true rfl) (tX8_recurrence_0 ?_)
  refine cX8_recurrence_1 (M_isTape _) ⟨by decide, by decide⟩ (Nat.le_of_ble_eq_true rfl) ⟨Nat.le_refl _, Nat.le_refl _⟩ (fun r h2 e => ?_)
  obtain ⟨rfl, e⟩ := e; replace e := e.symm; subst e
  refine tX8_recurrence_4 g42 g55 (fun _ => vp_in_nI ht (by decide)) (fun _ e1 e2 => ?_) (fun _ e1 e2 => ?_) (fun _ e1 => ?_) (fun e => absurd ((z01 _).mp e) (t4_no ht))
  · rw [ct] at e1
    rw [if_neg (hneg.mp e1), if_pos (Or.inl ((k4_e hk5).mp e2))]
    exact ⟨rfl, rfl⟩
  · rw [ct] at e1
    have hfm := hneg.mp e1
    have hk4 : ¬ k = 4 := fun q => e2 ((k4_e hk5).mpr q)
    simp only [if_neg hfm]
    refine cX8_recurrence_35 (k := 40) (M_noLetters ⟨by omega, by omega⟩ g42 g55 g56 g57 ht hN hneg hsz) g42 ⟨by decide, by decide⟩ (Nat.le_of_ble_eq_true rfl) ⟨Nat.le_refl _, Nat.le_refl _⟩ (fun r h3 e => ?_)
    rw [if_neg hfm] at e
    obtain ⟨rfl, e⟩ := e; replace e := e.symm; subst e
    cases hb : ab k it (200 * t) N with
    | false =>
      refine tX8_recurrence_38 (fun e => absurd e (by decide)) (fun _ => ?_)
      rw [if_pos (Or.inr rfl)]
      exact ⟨rfl, rfl⟩
    | true =>
      have hc : ¬ (k = 4 ∨ true = false) := fun q => q.elim hk4 (by decide)
      simp only [if_neg hc]
      have hp : k = 2 ∨ k = 3 ∨ k = 5 := by omega
      have hle : (bm k s N).2.2.1 ≤ N := by
        obtain ⟨i1, L2, hbi⟩ := bm_ok (s := s) hp N
        have := hbi.1
        have := hbi.2.1
        omega
      refine tX8_recurrence_38 (fun _ => ?_) (fun e => absurd rfl e)
      refine cX8_recurrence_47 (k := 40) (M_leastLength (s := s) hp ht hN hsz g42 g56 g57 g61 g62 g63 (his hb)) g42 ⟨by decide, by decide⟩ (Nat.le_of_ble_eq_true rfl) ⟨Nat.le_refl _, Nat.le_refl _⟩ (fun r h3 e => ?_)
      obtain ⟨rfl, ⟨f1, c61⟩, ⟨f2, c62⟩, ⟨f3, c63⟩, cf⟩ := e
      generalize hLL : (bm k s N).2.2.1 = LL at hle ⊢
      refine tX8_recurrence_50 ((cf 42 (by decide)).trans g42) ?_
      generalize hh1 : va_up h3 42 (cM (nI k) (nI n) (nI (k ^ n)) sx mx mc mw ml mf mp (nI LL)) = h1
      have f0 : Fr [42, 60, 61, 62, 63, 64] h h1 := by rw [← hh1]; exact (cf.mono (by decide)).up (by decide)
      have d42 : h1 42 = cM (nI k) (nI n) (nI (k ^ n)) sx mx mc mw ml mf mp (nI LL) := by rw [← hh1]; exact up_s _ _ _
      have d56 : h1 56 = aI 4 sz := (f0 56 (by decide)).trans g56
      have d57 : h1 57 = aI 800 it := (f0 57 (by decide)).trans g57
      have d60 : h1 60 = aI 201 to := by rw [← hh1]; exact (up_n _ _ (by decide)).trans ((cf 60 (by decide)).trans g60)
      have d61 : h1 61 = aI 202 f1 := by rw [← hh1]; exact (up_n _ _ (by decide)).trans c61
      have d62 : h1 62 = aI 202 f2 := by rw [← hh1]; exact (up_n _ _ (by decide)).trans c62
      have d63 : h1 63 = aI 202 f3 := by rw [← hh1]; exact (up_n _ _ (by decide)).trans c63
      have d64 : h1 64 = aI 40602 mt := by rw [← hh1]; exact (up_n _ _ (by decide)).trans ((cf 64 (by decide)).trans g64)
      refine cX8_recurrence_59 (k := 40) (M_solve (s := s) hp ht hle hN hsz d42 d56 d57 d60 d63 d64 (his hb)) d42 ⟨by decide, by decide⟩ (Nat.le_of_ble_eq_true rfl) ⟨Nat.le_refl _, Nat.le_refl _⟩ (fun r h4 e => ?_)
      obtain ⟨rfl, e60, e63, e64, ef⟩ := e
      refine tX8_recurrence_62 ((ef 42 (by decide)).trans d42) ?_
      exact ⟨rfl, (ef 42 (by decide)).trans d42, e60, ⟨f1, (ef 61 (by decide)).trans d61⟩, ⟨f2, (ef 62 (by decide)).trans d62⟩, e63, e64, Fr.tr f0 ef (by decide)⟩
  · rw [ct] at e1
    have hfm : fs t = -1 := Decidable.not_not.mp (fun q => e1 (hneg.mpr q))
    refine cX8_recurrence_21 (k := 40) (M_met g42 _ (d := 0)) g42 ⟨by decide, by decide⟩ (Nat.le_of_ble_eq_true rfl) ⟨Nat.le_refl _, Nat.le_refl _⟩ (fun r h5 e3 => ?_)
    obtain ⟨rfl, e3⟩ := e3; replace e3 := e3.symm; subst e3
    refine tX8_recurrence_24 ?_
    rw [if_pos hfm]
    exact ⟨by rw [show (-10 : Int32) - 1 = -11 by decide], rfl⟩
end MRC
section STRC
variable {G : gx} {h : ah}
theorem st_recurrence (hJ : J h) (a1 : Int32) : Sp G J mX7_recurrence mX8_recurrence [.int a1] h := by
  have hJ2 := hJ
  obtain ⟨k, n, s, F, T, E, kd, f, l, P, L0, mc, hm⟩ := hJ
  have hm2 := hm
  obtain ⟨hp, g2, g42, hr, jo, jt, jq, ⟨hL0, md, nw, e1, e2, to, n1, n2, n3, mt, hm0, hm5, g38, g39, g40, g41, g60, g61, g62, g63, g64, hto⟩, jk⟩ := hm
  have jt2 := jt
  obtain ⟨⟨tp, g23, htp⟩, fs, sz, ri, mv, g55, g56, g57, g58, htt⟩ := jt
  have ok := hp.1
  have hk5 := ok.2.1
  have hk2 := ok.1
  have g3 := hr.1.g3
  by_cases hb : a1 < 0 ∨ 4 ≤ a1
  · exact Sp_pure hJ2 g2 g42 (by decide) (by decide) (X_recurrence_no g2 g23 hb) (M_recurrence_no g42 g55 hb) rfl
  · obtain ⟨t, ht, rfl⟩ := t4_pick hb
    obtain ⟨N, it, bb, b1, b2, b3, b4, b5, b6, b7⟩ := htt t ht
    have hab : ab k ri (200 * t) N = ab k it 0 N := ab_cg N (fun j hj => by rw [Nat.zero_add]; exact b7 j (by omega))
    obtain ⟨v, hv⟩ : ∃ v : Nat → Nat, ∀ j, v j = (it j).toNatClampNeg := ⟨_, fun _ => rfl⟩
    have his : ab k it 0 N = true → ∀ j, j < N → it j = nI (v j) ∧ v j < k := fun q j hj => by
      have := ab_val (k := k) (by omega) q j hj
      rw [Nat.zero_add] at this
      rw [hv j]
      exact this
    have his2 : ab k ri (200 * t) N = true → ∀ j, j < N → ri (200 * t + j) = nI (v j) ∧ v j < k := fun q j hj => by
      rw [b7 j (by omega)]
      exact his (by rw [← hab]; exact q) j hj
    refine Sp_of g2 (dx := 3) (dm := 3) (by decide) (by decide) (X_recurrence (s := v) ok g2 g3 g23 htp ht b1 b4 b5 g38 g39 g40 g41 his) (fun r h1 e => ?_)
    by_cases hfm : fs t = -1
    · rw [if_pos hfm] at e
      obtain ⟨rfl, e⟩ := e
      subst e
      have k42 : va_up h 2 (cX f 1) 42 = cM (nI k) (nI n) (nI (k ^ n)) (nI s) (nI E) mc kd l f (nI P) (nI L0) := (up_n _ _ (by decide)).trans g42
      refine ⟨_, _, rfl, k42, Ct.mono (M_recurrence (s := v) ok k42 ((up_n _ _ (by decide)).trans g55) ((up_n _ _ (by decide)).trans g56) ((up_n _ _ (by decide)).trans g57) ((up_n _ _ (by decide)).trans g60) ((up_n _ _ (by decide)).trans g61) ((up_n _ _ (by decide)).trans g62) ((up_n _ _ (by decide)).trans g63) ((up_n _ _ (by decide)).trans g64) ht b1 b3 b2 his2) (fun r2 h2 q => ?_)⟩
      rw [if_pos hfm] at q
      exact ⟨q.1, by rw [q.2]; exact hm2.lat⟩
    · rw [if_neg hfm] at e
      by_cases hc : k = 4 ∨ ab k it 0 N = false
      · rw [if_pos hc] at e
        obtain ⟨rfl, e⟩ := e
        subst e
        refine ⟨_, _, rfl, g42, Ct.mono (M_recurrence (s := v) ok g42 g55 g56 g57 g60 g61 g62 g63 g64 ht b1 b3 b2 his2) (fun r2 h2 q => ?_)⟩
        rw [if_neg hfm, hab, if_pos hc] at q
        exact ⟨q.1, by rw [q.2]; exact hJ2⟩
      · rw [if_neg hc] at e
        have hpr : k = 2 ∨ k = 3 ∨ k = 5 := by
          have : ¬ k = 4 := fun q => hc (Or.inl q)
          omega
        obtain ⟨rfl, k38, ⟨f2, k39, hf2⟩, ⟨f3, k40⟩, ⟨f4, k41⟩, kf⟩ := e
        have k42 := (kf 42 (by decide)).trans g42
        refine ⟨_, _, rfl, k42, Ct.mono (M_recurrence (s := v) ok k42 ((kf 55 (by decide)).trans g55) ((kf 56 (by decide)).trans g56) ((kf 57 (by decide)).trans g57) ((kf 60 (by decide)).trans g60) ((kf 61 (by decide)).trans g61) ((kf 62 (by decide)).trans g62) ((kf 63 (by decide)).trans g63) ((kf 64 (by decide)).trans g64) ht b1 b3 b2 his2) (fun r2 h2 q => ?_)⟩
        rw [if_neg hfm, hab, if_neg hc] at q
        obtain ⟨q1, q42, ⟨M, dn, kp, g, hS, q60, hg⟩, ⟨u1, q61⟩, ⟨u2, q62⟩, ⟨u3, q63⟩, ⟨u4, q64⟩, qf⟩ := q
        have hf := kf.tr2 qf
        obtain ⟨i1, L2, hbi⟩ := bm_ok (s := v) hpr N
        have hlo : LO k v N (bm k v N).2.2.1 (bm k v N).2.2.2.2 ((bm k v N).2.2.2.2 + (2 * (bm k v N).2.2.1 - N)) (bmz k v N) := lwn_ok hbi _ _ _ (Nat.le_refl _) rfl (LO_0 hbi)
        have htold := fun c hc => told_ok hpr hbi hlo hS (c := c) hc
        have hle : (bm k v N).2.2.1 ≤ N := by
          have := hbi.1
          have := hbi.2.1
          omega
        refine ⟨q1, k, n, s, F, T, E, kd, f, l, P, (bm k v N).2.2.1, mc, hp, (hf 2 (by decide)).trans g2, q42, hr.fr hf (by decide), jo.fr hf (by decide), jt2.fr hf (by decide), jq.fr hf (by decide), ⟨by omega, k, f2, f3, f4, g, u1, u2, u3, u4, by omega, hk5, (qf 38 (by decide)).trans k38, (qf 39 (by decide)).trans k39, (qf 40 (by decide)).trans k40, (qf 41 (by decide)).trans k41, q60, q61, q62, q63, q64, fun j j1 j2 => ?_⟩, jk.fr hf (by decide)⟩
        have hx := hlo.1 j
        have hgj := hg (j - 1) (by omega)
        have htj := htold (j - 1) (by omega)
        rw [show j - 1 + 1 = j by omega] at hgj htj
        rw [hgj, htj, hf2 j (by omega), pk_sub (by omega), rm_e (by omega) ⟨hk2, hk5⟩]
end STRC
