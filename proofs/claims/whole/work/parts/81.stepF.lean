/-! STEPS: print, find, twice, parts; the beginning -/
section ST5
variable {G : gx} {h : ah}
theorem st_print (hJ : J h) (a1 a2 a3 a4 : Int32) : Sp G J mX7_print mX8_print [.int a1, .int a2, .int a3, .int a4] h := by
  have hJ2 := hJ
  obtain ⟨k, n, s, F, T, E, kd, f, l, P, L0, mc, hm⟩ := hJ
  have hm2 := hm
  obtain ⟨hp, g2, g42, hr, ⟨⟨fm, g17⟩, ⟨rl, rm, g18, g53, hrr⟩, -⟩, ⟨⟨tp, g23, htp⟩, fs, sz, ri, mv, g55, g56, g57, g58, htt⟩, -⟩ := hm
  have ok := hp.1
  have hN := ok.le (Nat.le_refl n)
  have g3 := hr.1.g3
  by_cases hb : ((a1 < 0 ∨ 4 ≤ a1) ∨ (a3 < 0 ∨ nI (k ^ n) ≤ a3) ∨ a4 < 0) ∨ kd = -1
  · exact Sp_pure hJ2 g2 g42 (by decide) (by decide) (X_print_no ok g2 g3 g17 g23 hb) (M_print_no ok g42 g55 hb) rfl
  · obtain ⟨t, ht, rfl⟩ := t4_pick (fun q => hb (Or.inl (Or.inl q)))
    obtain ⟨p, hp2, rfl⟩ := p_pick hN (fun q => hb (Or.inl (Or.inr (Or.inl q))))
    have h4 : ¬ a4 < 0 := fun q => hb (Or.inl (Or.inr (Or.inr q)))
    have hkd : ¬ kd = -1 := fun q => hb (Or.inr q)
    obtain ⟨rr, hq⟩ := hrr hkd
    obtain ⟨L2, it, bb, b1, b2, b3, b4, b5, b6, b7⟩ := htt t ht
    refine Sp_of g2 (dx := 2) (dm := 2) (by decide) (by decide) (X_print ok g2 g3 g17 g18 hkd g23 htp ht b1 b4 b5 hp2 h4) (fun r h1 e => ?_)
    by_cases hfm : fs t = -1
    · rw [if_pos hfm] at e
      obtain ⟨rfl, e⟩ := e
      subst e
      have k42 : va_up h 2 (cX f 1) 42 = cM (nI k) (nI n) (nI (k ^ n)) (nI s) (nI E) mc kd l f (nI P) (nI L0) := (up_n _ _ (by decide)).trans g42
      refine ⟨_, _, rfl, k42, Ct.mono (M_print ok k42 ((up_n _ _ (by decide)).trans g53) ((up_n _ _ (by decide)).trans g55) ((up_n _ _ (by decide)).trans g56) ((up_n _ _ (by decide)).trans g57) hkd ht b1 b3 b2 hp2 h4) (fun r2 h2 q => ?_)⟩
      rw [if_pos hfm] at q
      exact ⟨q.1, by rw [q.2]; exact hm2.lat⟩
    · rw [if_neg hfm] at e
      by_cases hw : wi L2 a2 a4
      · rw [if_pos hw] at e
        obtain ⟨rfl, e⟩ := e
        subst e
        have k42 : va_up h 2 (cX f 2) 42 = cM (nI k) (nI n) (nI (k ^ n)) (nI s) (nI E) mc kd l f (nI P) (nI L0) := (up_n _ _ (by decide)).trans g42
        refine ⟨_, _, rfl, k42, Ct.mono (M_print ok k42 ((up_n _ _ (by decide)).trans g53) ((up_n _ _ (by decide)).trans g55) ((up_n _ _ (by decide)).trans g56) ((up_n _ _ (by decide)).trans g57) hkd ht b1 b3 b2 hp2 h4) (fun r2 h2 q => ?_)⟩
        rw [if_neg hfm, if_pos hw] at q
        exact ⟨q.1, by rw [q.2]; exact hm2.lat⟩
      · rw [if_neg hw] at e
        obtain ⟨rfl, e⟩ := e
        have kf : Fr [3 * t + 23 + 2] h h1 := by rw [e]; exact Fr.rf.up (by simp)
        have ki : h1 (3 * t + 23 + 2) = aI 200 (wr (fun j => rl ((p + j) % k ^ n)) it a2.toNatClampNeg a4.toNatClampNeg) := by rw [e]; exact up_s _ _ _
        have nin : ∀ c, 35 < c → c ∉ [3 * t + 23 + 2] := fun c hc => by simp; omega
        have k42 := (kf 42 (nin 42 (by decide))).trans g42
        refine ⟨_, _, rfl, k42, Ct.mono (M_print ok k42 ((kf 53 (nin _ (by decide))).trans g53) ((kf 55 (nin _ (by decide))).trans g55) ((kf 56 (nin _ (by decide))).trans g56) ((kf 57 (nin _ (by decide))).trans g57) hkd ht b1 b3 b2 hp2 h4) (fun r2 h2 q => ?_)⟩
        rw [if_neg hfm, if_neg hw] at q
        obtain ⟨q1, q2⟩ := q
        have qf : Fr [57] h1 h2 := by rw [q2]; exact Fr.rf.up (by decide)
        obtain ⟨i, m, him, rfl, rfl⟩ := wi_pick b1 hw
        rw [nI_clamp (n := i) (by omega), nI_clamp (n := m) (by omega)] at ki q2
        refine ⟨q1, JT.items hm2 g23 htp g55 g56 htt ht (Or.inl rfl) kf ki qf (by rw [q2]; exact up_s _ _ _) ((qf 58 (by decide)).trans ((kf 58 (nin _ (by decide))).trans g58)) (fun j hj => ?_) (fun t2 ht2 hne j hj => by
          show (if 200 * t + i ≤ 200 * t2 + j ∧ 200 * t2 + j < 200 * t + i + m then rm ((p + (200 * t2 + j - (200 * t + i))) % k ^ n) else ri (200 * t2 + j)) = ri (200 * t2 + j)
          exact if_neg (by omega))⟩
        unfold wr
        by_cases hc : i ≤ j ∧ j < i + m
        · rw [if_pos (by omega), if_pos hc]
          show rm ((p + (200 * t + j - (200 * t + i))) % k ^ n) = rl ((p + (j - i)) % k ^ n)
          have hmd := Nat.mod_lt (p + (j - i)) (ok.pp n)
          rw [show 200 * t + j - (200 * t + i) = j - i by omega, (hq _ hmd).1, (hq _ hmd).2.1]
        · rw [if_neg (by omega), if_neg hc]; exact b7 j hj
theorem st_twice (hJ : J h) (a1 : Int32) : Sp G J mX7_twice mX8_twice [.int a1] h := by
  have hJ2 := hJ
  obtain ⟨k, n, s, F, T, E, kd, f, l, P, L0, mc, hm⟩ := hJ
  have hm2 := hm
  obtain ⟨hp, g2, g42, hr, -, ⟨⟨tp, g23, htp⟩, fs, sz, ri, mv, g55, g56, g57, g58, htt⟩, -⟩ := hm
  have ok := hp.1
  have g3 := hr.1.g3
  by_cases hb : a1 < 0 ∨ 4 ≤ a1
  · exact Sp_pure hJ2 g2 g42 (by decide) (by decide) (X_twice_no g2 g23 hb) (M_twice_no g42 hb) rfl
  · obtain ⟨t, ht, rfl⟩ := t4_pick hb
    obtain ⟨L2, it, bb, b1, b2, b3, b4, b5, b6, b7⟩ := htt t ht
    have hab : ab k ri (200 * t) L2 = ab k it 0 L2 := ab_cg L2 (fun j hj => by rw [Nat.zero_add]; exact b7 j (by omega))
    refine Sp_of g2 (dx := 2) (dm := 2) (by decide) (by decide) (X_twice ok g2 g3 g23 htp ht b1 b4 b5 b6) (fun r h1 e => ?_)
    by_cases hfm : fs t = -1
    · rw [if_pos hfm] at e
      obtain ⟨rfl, e⟩ := e
      subst e
      have k42 : va_up h 2 (cX f 1) 42 = cM (nI k) (nI n) (nI (k ^ n)) (nI s) (nI E) mc kd l f (nI P) (nI L0) := (up_n _ _ (by decide)).trans g42
      refine ⟨_, _, rfl, k42, Ct.mono (M_twice ok k42 ((up_n _ _ (by decide)).trans g55) ((up_n _ _ (by decide)).trans g56) ((up_n _ _ (by decide)).trans g57) ht b1 b3 b2) (fun r2 h2 q => ?_)⟩
      rw [if_pos hfm] at q
      exact ⟨q.1, by rw [q.2]; exact hm2.lat⟩
    · rw [if_neg hfm] at e
      by_cases hc : L2 = 0 ∨ ab k it 0 L2 = false
      · rw [if_pos hc] at e
        obtain ⟨rfl, e⟩ := e
        subst e
        refine ⟨_, _, rfl, g42, Ct.mono (M_twice ok g42 g55 g56 g57 ht b1 b3 b2) (fun r2 h2 q => ?_)⟩
        rw [if_neg hfm, hab, if_pos hc] at q
        exact ⟨q.1, by rw [q.2]; exact hJ2⟩
      · rw [if_neg hc] at e
        obtain ⟨⟨x, rfl, hx⟩, ⟨bb2, kb⟩, kf⟩ := e
        have nin : ∀ c, 35 < c → c ∉ [3 * t + 24 + 2] := fun c hc => by simp; omega
        have k42 := (kf 42 (nin 42 (by decide))).trans g42
        refine ⟨_, _, rfl, k42, Ct.mono (M_twice ok k42 ((kf 55 (nin _ (by decide))).trans g55) ((kf 56 (nin _ (by decide))).trans g56) ((kf 57 (nin _ (by decide))).trans g57) ht b1 b3 b2) (fun r2 h2 q => ?_)⟩
        rw [if_neg hfm, hab, if_neg hc] at q
        obtain ⟨⟨y, q1, hy⟩, q2⟩ := q
        have hL : 0 < L2 := Nat.pos_of_ne_zero (fun z => hc (Or.inl z))
        have hwv : ∀ i, wv k (fun q => (ri (200 * t + q)).toNatClampNeg) L2 i n = wv k (fun q => (it q).toNatClampNeg) L2 i n := fun i => wv_cg hL (fun j hj => by show (ri (200 * t + j)).toNatClampNeg = (it j).toNatClampNeg; rw [b7 j (by omega)]) n
        have hxy : y = x := by
          refine isR_u hy ?_
          have e0 : (fun j i => wv k (fun q => (ri (200 * t + q)).toNatClampNeg) L2 i n = wv k (fun q => (ri (200 * t + q)).toNatClampNeg) L2 j n) = (fun j i => wv k (fun q => (it q).toNatClampNeg) L2 i n = wv k (fun q => (it q).toNatClampNeg) L2 j n) := by
            funext j i
            rw [hwv, hwv]
          rw [e0]
          exact hx
        refine ⟨by rw [q1, hxy], ?_⟩
        rw [q2]
        refine hm2.tap kf (tz_in ht (fun j hj => ?_)) ((kf 2 (by simp <;> omega)).trans g2) k42 ⟨⟨tp, (kf 23 (by simp <;> omega)).trans g23, htp⟩, fs, sz, ri, mv, (kf 55 (nin _ (by decide))).trans g55, (kf 56 (nin _ (by decide))).trans g56, (kf 57 (nin _ (by decide))).trans g57, (kf 58 (nin _ (by decide))).trans g58, fun t2 ht2 => ?_⟩
        · simp at hj
          exact Or.inr (Or.inr (Or.inl hj))
        · by_cases htt3 : t2 = t
          · subst htt3
            exact ⟨L2, it, bb2, b1, b2, b3, (kf _ (by simp <;> omega)).trans b4, (kf _ (by simp <;> omega)).trans b5, kb, b7⟩
          · exact (htt t2 ht2).fr kf (by simp <;> omega) (by simp <;> omega) (by simp <;> omega)
theorem du1_cg {v v2 : Nat → Nat} {L b : Nat} (hv : ∀ j, j < L → v j = v2 j) : ∀ m e a, a + m = L → e < a → b < a → du1 v L b m e a = du1 v2 L b m e a
  | 0, _, _, _, _, _ => rfl
  | m + 1, e, a, h1, h2, h3 => by
    unfold du1
    rw [hv e (by omega), hv a (by omega)]
    split
    · refine du1_cg hv m _ (a + 1) (by omega) ?_ (by omega)
      split <;> omega
    · rfl
theorem du1_cg2 {v v2 : Nat → Nat} {L b : Nat} (hv : ∀ j, j < L → v j = v2 j) (hb : b < L) : du1 v L b (L - (b + 1)) b (b + 1) = du1 v2 L b (L - (b + 1)) b (b + 1) := du1_cg hv _ _ _ (by omega) (by omega) (by omega)
theorem du3_cg {v v2 : Nat → Nat} {L : Nat} (hv : ∀ j, j < L → v j = v2 j) : ∀ m b q f, du3 v L m b q f = du3 v2 L m b q f
  | 0, _, _, _ => rfl
  | m + 1, b, q, f => by
    unfold du3
    by_cases hb : b < L
    · rw [if_pos hb, if_pos hb, du1_cg2 hv hb]
      exact du3_cg hv m _ _ _
    · rw [if_neg hb, if_neg hb]
theorem st_parts (hJ : J h) (a1 : Int32) : Sp G J mX7_parts mX8_parts [.int a1] h := by
  have hJ2 := hJ
  obtain ⟨k, n, s, F, T, E, kd, f, l, P, L0, mc, hm⟩ := hJ
  have hm2 := hm
  obtain ⟨hp, g2, g42, hr, jo, jt, ⟨hP, g36, pb, g37, g59⟩, jc, jk⟩ := hm
  have jt2 := jt
  obtain ⟨⟨tp, g23, htp⟩, fs, sz, ri, mv, g55, g56, g57, g58, htt⟩ := jt
  have ok := hp.1
  have g3 := hr.1.g3
  by_cases hb : a1 < 0 ∨ 4 ≤ a1
  · exact Sp_pure hJ2 g2 g42 (by decide) (by decide) (X_parts_no g2 g23 hb) (M_parts_no g42 hb) rfl
  · obtain ⟨t, ht, rfl⟩ := t4_pick hb
    obtain ⟨L2, it, bb, b1, b2, b3, b4, b5, b6, b7⟩ := htt t ht
    have hab : ab k ri (200 * t) L2 = ab k it 0 L2 := ab_cg L2 (fun j hj => by rw [Nat.zero_add]; exact b7 j (by omega))
    refine Sp_of g2 (dx := 2) (dm := 2) (by decide) (by decide) (X_parts ok g2 g3 g23 htp ht b1 b4 b5 g36 g37) (fun r h1 e => ?_)
    by_cases hfm : fs t = -1
    · rw [if_pos hfm] at e
      obtain ⟨rfl, e⟩ := e
      subst e
      have k42 : va_up h 2 (cX f 1) 42 = cM (nI k) (nI n) (nI (k ^ n)) (nI s) (nI E) mc kd l f (nI P) (nI L0) := (up_n _ _ (by decide)).trans g42
      refine ⟨_, _, rfl, k42, Ct.mono (M_parts ok k42 ((up_n _ _ (by decide)).trans g55) ((up_n _ _ (by decide)).trans g56) ((up_n _ _ (by decide)).trans g57) ((up_n _ _ (by decide)).trans g59) ht b1 b3 b2) (fun r2 h2 q => ?_)⟩
      rw [if_pos hfm] at q
      exact ⟨q.1, by rw [q.2]; exact hm2.lat⟩
    · rw [if_neg hfm] at e
      by_cases hc : ab k it 0 L2 = false
      · rw [if_pos hc] at e
        obtain ⟨rfl, e⟩ := e
        subst e
        refine ⟨_, _, rfl, g42, Ct.mono (M_parts ok g42 g55 g56 g57 g59 ht b1 b3 b2) (fun r2 h2 q => ?_)⟩
        rw [if_neg hfm, hab, if_pos hc] at q
        exact ⟨q.1, by rw [q.2]; exact hJ2⟩
      · rw [if_neg hc] at e
        obtain ⟨W, hW, rfl, k36, k37, kf⟩ := e
        have k42 := (kf 42 (by decide)).trans g42
        refine ⟨_, _, rfl, k42, Ct.mono (M_parts ok k42 ((kf 55 (by decide)).trans g55) ((kf 56 (by decide)).trans g56) ((kf 57 (by decide)).trans g57) ((kf 59 (by decide)).trans g59) ht b1 b3 b2) (fun r2 h2 q => ?_)⟩
        rw [if_neg hfm, hab, if_neg hc] at q
        obtain ⟨W2, hW2, q1, q42, q59, qf⟩ := q
        have hWW : W2 = W := by
          rw [hW2, hW]
          exact du3_cg (fun j hj => by show (ri (200 * t + j)).toNatClampNeg = (it j).toNatClampNeg; rw [b7 j (by omega)]) _ _ _ _
        subst hWW
        have hf := kf.tr2 qf
        have hle : W2.1 ≤ L2 := by rw [hW]; exact du3_le _ _ _ _ _ _ (Nat.zero_le _) (Nat.le_refl _)
        refine ⟨q1, k, n, s, F, T, E, kd, f, l, _, L0, mc, hp, (hf 2 (by decide)).trans g2, q42, hr.fr hf (by decide), jo.fr hf (by decide), jt2.fr hf (by decide), ⟨?_, (qf 36 (by decide)).trans k36, _, (qf 37 (by decide)).trans k37, q59⟩, jc.fr hf (by decide), jk.fr hf (by decide)⟩
        split
        · omega
        · exact hP
theorem st_find (hJ : J h) (a1 a2 a3 a4 : Int32) : Sp G J mX7_find mX8_find [.int a1, .int a2, .int a3, .int a4] h := by
  have hJ2 := hJ
  obtain ⟨k, n, s, F, T, E, kd, f, l, P, L0, mc, hm⟩ := hJ
  have hm2 := hm
  obtain ⟨hp, g2, g42, hr, ⟨⟨fm, g17⟩, ⟨rl, rm, g18, g53, hrr⟩, ⟨pl, g19, g54⟩, ⟨o, g20⟩, ⟨sl, g21⟩, ⟨st, g22⟩⟩, jt, jq, jc, jk⟩ := hm
  have jt2 := jt
  obtain ⟨⟨tp, g23, htp⟩, fs, sz, ri, mv, g55, g56, g57, g58, htt⟩ := jt
  have ok := hp.1
  have hN := ok.le (Nat.le_refl n)
  have g3 := hr.1.g3
  by_cases hb : fbad a1 a3 a4 ∨ kd = -1
  · exact Sp_pure hJ2 g2 g42 (by decide) (by decide) (X_find_no g2 g17 g23 hb) (M_find_no g42 g55 hb) rfl
  · obtain ⟨t, ht, rfl⟩ := t4_pick (fun q => hb (Or.inl (Or.inl q)))
    obtain ⟨m, hm1, hm40, rfl⟩ := f_pick1 (fun q => hb (Or.inl (Or.inr (Or.inl q))))
    obtain ⟨sp, hsp, rfl⟩ := f_pick0 (fun q => hb (Or.inl (Or.inr (Or.inr q))))
    have hkd : ¬ kd = -1 := fun q => hb (Or.inr q)
    obtain ⟨rr, hq⟩ := hrr hkd
    obtain ⟨L2, it, bb, b1, b2, b3, b4, b5, b6, b7⟩ := htt t ht
    have hr1 : ∀ j, j < k ^ n → rl j = nI (rr j) ∧ rr j < k := fun j hj => ⟨(hq j hj).1, (hq j hj).2.2⟩
    have hr2 : ∀ j, j < k ^ n → rm j = nI (rr j) ∧ rr j < k := fun j hj => ⟨(hq j hj).2.1, (hq j hj).2.2⟩
    refine Sp_of g2 (dx := 3) (dm := 2) (by decide) (by decide) (X_find (S := fun p b => so1 k it a2.toNatClampNeg (rr ((p + b) % k ^ n)) b) ok g2 g3 g17 g18 hr1 g21 g22 hkd g23 htp ht b1 b4 b5 hm1 hm40 hsp (fun _ _ _ => rfl)) (fun r h1 e => ?_)
    have MF : ∀ (h1 : ah), ¬ wi L2 a2 (nI m) ∨ wi L2 a2 (nI m) → h1 42 = cM (nI k) (nI n) (nI (k ^ n)) (nI s) (nI E) mc kd l f (nI P) (nI L0) → h1 53 = aI 20000 rm → h1 55 = aI 4 fs → h1 56 = aI 4 sz → h1 57 = aI 800 ri → Ct G mX8_find 2 0 0 [.ref 42, .int (nI t), .int a2, .int (nI m), .int (nI sp)] h1 (fun r h2 => if fs t = -1 then r = some (.int (-11)) ∧ h2 = va_up h1 42 (cM (nI k) (nI n) (nI (k ^ n)) (nI s) (nI E) mc kd 1 f (nI P) (nI L0)) else if wi L2 a2 (nI m) then r = some (.int (-12)) ∧ h2 = va_up h1 42 (cM (nI k) (nI n) (nI (k ^ n)) (nI s) (nI E) mc kd 2 f (nI P) (nI L0)) else r = some (.int (nI (fmc (fun p b => so1 k ri (200 * t + a2.toNatClampNeg) (rr ((p + b) % k ^ n)) b) m sp (k ^ n)))) ∧ h2 42 = cM (nI k) (nI n) (nI (k ^ n)) (nI s) (nI E) mc kd l (fmf (fun p b => so1 k ri (200 * t + a2.toNatClampNeg) (rr ((p + b) % k ^ n)) b) m sp f (k ^ n)) (nI P) (nI L0) ∧ Fr [42] h1 h2) := fun h1 _ e42 e53 e55 e56 e57 => M_find ok e42 e53 hr2 e55 e56 e57 hkd ht b1 b3 b2 hm1 hm40 hsp (fun _ _ _ => rfl)
    by_cases hfm : fs t = -1
    · rw [if_pos hfm] at e
      obtain ⟨rfl, e⟩ := e
      subst e
      have k42 : va_up h 2 (cX f 1) 42 = cM (nI k) (nI n) (nI (k ^ n)) (nI s) (nI E) mc kd l f (nI P) (nI L0) := (up_n _ _ (by decide)).trans g42
      refine ⟨_, _, rfl, k42, Ct.mono (MF _ (Decidable.em _).symm k42 ((up_n _ _ (by decide)).trans g53) ((up_n _ _ (by decide)).trans g55) ((up_n _ _ (by decide)).trans g56) ((up_n _ _ (by decide)).trans g57)) (fun r2 h2 q => ?_)⟩
      rw [if_pos hfm] at q
      exact ⟨q.1, by rw [q.2]; exact hm2.lat⟩
    · rw [if_neg hfm] at e
      by_cases hw : wi L2 a2 (nI m)
      · rw [if_pos hw] at e
        obtain ⟨rfl, e⟩ := e
        subst e
        have k42 : va_up h 2 (cX f 2) 42 = cM (nI k) (nI n) (nI (k ^ n)) (nI s) (nI E) mc kd l f (nI P) (nI L0) := (up_n _ _ (by decide)).trans g42
        refine ⟨_, _, rfl, k42, Ct.mono (MF _ (Or.inr hw) k42 ((up_n _ _ (by decide)).trans g53) ((up_n _ _ (by decide)).trans g55) ((up_n _ _ (by decide)).trans g56) ((up_n _ _ (by decide)).trans g57)) (fun r2 h2 q => ?_)⟩
        rw [if_neg hfm, if_pos hw] at q
        exact ⟨q.1, by rw [q.2]; exact hm2.lat⟩
      · rw [if_neg hw] at e
        obtain ⟨rfl, k2, ⟨fm2, k17⟩, ⟨x21, k21⟩, ⟨x22, k22⟩, kf⟩ := e
        have k42 := (kf 42 (by decide)).trans g42
        refine ⟨_, _, rfl, k42, Ct.mono (MF _ (Or.inl hw) k42 ((kf 53 (by decide)).trans g53) ((kf 55 (by decide)).trans g55) ((kf 56 (by decide)).trans g56) ((kf 57 (by decide)).trans g57)) (fun r2 h2 q => ?_)⟩
        rw [if_neg hfm, if_neg hw] at q
        obtain ⟨q1, q42, qf⟩ := q
        obtain ⟨i, m2, him, rfl, hmm⟩ := wi_pick b1 hw
        have hmm2 : m = m2 := (nI_eq (by omega) (by omega)).mp hmm
        subst hmm2
        have hS : ∀ p, cs ((fun p b => so1 k ri (200 * t + (nI i).toNatClampNeg) (rr ((p + b) % k ^ n)) b) p) m = cs ((fun p b => so1 k it (nI i).toNatClampNeg (rr ((p + b) % k ^ n)) b) p) m := fun p => cs_cg m (fun b hb2 => by
          show so1 k ri (200 * t + (nI i).toNatClampNeg) (rr ((p + b) % k ^ n)) b = so1 k it (nI i).toNatClampNeg (rr ((p + b) % k ^ n)) b
          unfold so1
          rw [nI_clamp (by omega), show 200 * t + i + b = 200 * t + (i + b) by omega, b7 (i + b) (by omega)])
        have hfc : ∀ p, fmc (fun p b => so1 k ri (200 * t + (nI i).toNatClampNeg) (rr ((p + b) % k ^ n)) b) m sp p = fmc (fun p b => so1 k it (nI i).toNatClampNeg (rr ((p + b) % k ^ n)) b) m sp p := by
          intro p
          induction p with
          | zero => rfl
          | succ p ih =>
            have := hS p
            show fmc _ m sp p + (if cs _ m ≤ sp then 1 else 0) = fmc _ m sp p + (if cs _ m ≤ sp then 1 else 0)
            rw [ih, this]
        have hff : ∀ p, fmf (fun p b => so1 k ri (200 * t + (nI i).toNatClampNeg) (rr ((p + b) % k ^ n)) b) m sp f p = fmf (fun p b => so1 k it (nI i).toNatClampNeg (rr ((p + b) % k ^ n)) b) m sp f p := by
          intro p
          induction p with
          | zero => rfl
          | succ p ih =>
            have := hS p
            show (if cs _ m ≤ sp ∧ fmc _ m sp p = 0 then nI p else fmf _ m sp f p) = (if cs _ m ≤ sp ∧ fmc _ m sp p = 0 then nI p else fmf _ m sp f p)
            rw [ih, this, hfc p]
        rw [hfc] at q1
        rw [hff] at q42
        have hf := kf.tr2 qf
        exact ⟨q1, k, n, s, F, T, E, kd, _, l, P, L0, mc, hp, (qf 2 (by decide)).trans k2, q42, hr.fr hf (by decide), ⟨⟨fm2, (qf 17 (by decide)).trans k17⟩, ⟨rl, rm, (hf 18 (by decide)).trans g18, (hf 53 (by decide)).trans g53, hrr⟩, ⟨pl, (hf 19 (by decide)).trans g19, (hf 54 (by decide)).trans g54⟩, ⟨o, (hf 20 (by decide)).trans g20⟩, ⟨x21, (qf 21 (by decide)).trans k21⟩, ⟨x22, (qf 22 (by decide)).trans k22⟩⟩, jt2.fr hf (by decide), jq.fr hf (by decide), jc.fr hf (by decide), jk.fr hf (by decide)⟩
end ST5
