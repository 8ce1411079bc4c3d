/-! STEPS of the tapes -/
abbrev cTx : List Nat := 2 :: 42 :: cT_
theorem Jm.tap {k n s E P L : Nat} {F T : Nat → Nat} {kd f l mc f2 l2 : Int32} {h h2 : ah} (hJ : Jm k n s F T E kd f l P L mc h) {Z : List Nat} (hf : Fr Z h h2) (hz : ∀ j, j ∈ Z → j ∈ cTx) (g2 : h2 2 = cX f2 l2) (g42 : h2 42 = cM (nI k) (nI n) (nI (k ^ n)) (nI s) (nI E) mc kd l2 f2 (nI P) (nI L)) (ht : JT h2) : J h2 := by
  obtain ⟨hp, -, -, hr, jo, -, jq, jc, jk⟩ := hJ
  exact ⟨k, n, s, F, T, E, kd, f2, l2, P, L, mc, hp, g2, g42, hr.fr hf (fun j hj q => (show ∀ j, j ∈ cR_ → j ∉ cTx by decide) j hj (hz j q)), jo.fr hf (fun j hj q => (show ∀ j, j ∈ cO_ → j ∉ cTx by decide) j hj (hz j q)), ht, jq.fr hf (fun j hj q => (show ∀ j, j ∈ [36, 37, 59] → j ∉ cTx by decide) j hj (hz j q)), jc.fr hf (fun j hj q => (show ∀ j, j ∈ cC_ → j ∉ cTx by decide) j hj (hz j q)), jk.fr hf (fun j hj q => (show ∀ j, j ∈ cK_ → j ∉ cTx by decide) j hj (hz j q))⟩
/-- a finding: nothing else changes -/
theorem Jm.lat {k n s E P L : Nat} {F T : Nat → Nat} {kd f l mc v : Int32} {h : ah} (hJ : Jm k n s F T E kd f l P L mc h) : J (va_up (va_up h 2 (cX f v)) 42 (cM (nI k) (nI n) (nI (k ^ n)) (nI s) (nI E) mc kd v f (nI P) (nI L))) := by
  have hf : Fr [2, 42] h (va_up (va_up h 2 (cX f v)) 42 (cM (nI k) (nI n) (nI (k ^ n)) (nI s) (nI E) mc kd v f (nI P) (nI L))) := (Fr.rf.up (by decide)).up (by decide)
  exact hJ.tap hf (by decide) ((up_n _ _ (by decide)).trans (up_s _ _ _)) (up_s _ _ _) (hJ.2.2.2.2.2.1.fr hf (by decide))
theorem Jt.ot {fs sz ri fs2 sz2 ri2 : Nat → Int32} {h h2 : ah} {t : Nat} (hr : Jt fs sz ri h t) {X : List Nat} (hf : Fr X h h2) (h1 : 3 * t + 22 + 2 ∉ X) (h3 : 3 * t + 23 + 2 ∉ X) (h4 : 3 * t + 24 + 2 ∉ X) (e1 : fs2 t = fs t) (e2 : sz2 t = sz t) (e3 : ∀ j, j < 200 → ri2 (200 * t + j) = ri (200 * t + j)) : Jt fs2 sz2 ri2 h2 t := by
  obtain ⟨L, it, bb, a1, a2, a3, a4, a5, a6, a7⟩ := hr
  exact ⟨L, it, bb, a1, e2.trans a2, by rw [e1]; exact a3, by rw [e1]; exact (hf _ h1).trans a4, (hf _ h3).trans a5, (hf _ h4).trans a6, fun j hj => (e3 j hj).trans (a7 j hj)⟩
theorem tz_in {t : Nat} (ht : t < 4) {a : List Nat} (ha : ∀ j, j ∈ a → j = 3 * t + 22 + 2 ∨ j = 3 * t + 23 + 2 ∨ j = 3 * t + 24 + 2 ∨ j ∈ cTx) : ∀ j, j ∈ a → j ∈ cTx := fun j hj => by
  obtain ⟨c1, c2, c3⟩ := tc_in ht
  rcases ha j hj with q | q | q | q
  · rw [q]; exact List.mem_cons_of_mem _ (List.mem_cons_of_mem _ c1)
  · rw [q]; exact List.mem_cons_of_mem _ (List.mem_cons_of_mem _ c2)
  · rw [q]; exact List.mem_cons_of_mem _ (List.mem_cons_of_mem _ c3)
  · exact q
section ST4
variable {G : gx} {h : ah}
theorem st_tape (hJ : J h) (a1 a2 a3 : Int32) : Sp G J mX7_tape mX8_tape [.int a1, .int a2, .int a3] h := by
  have hJ2 := hJ
  obtain ⟨k, n, s, F, T, E, kd, f, l, P, L0, mc, hm⟩ := hJ
  have hm2 := hm
  obtain ⟨-, g2, g42, -, -, ⟨⟨tp, g23, htp⟩, fs, sz, ri, mv, g55, g56, g57, g58, htt⟩, -⟩ := hm
  by_cases hb : (a1 < 0 ∨ 4 ≤ a1) ∨ (a2 < 0 ∨ 2 < a2) ∨ 200 < a3
  · exact Sp_pure hJ2 g2 g42 (by decide) (by decide) (X_tape_no g2 g23 hb) (M_tape_no g42 g55 g56 hb) rfl
  · have hx : ¬ (a1 < 0 ∨ 4 ≤ a1) := fun q => hb (Or.inl q)
    have hy : ¬ (a2 < 0 ∨ 2 < a2) := fun q => hb (Or.inr (Or.inl q))
    by_cases hz : a3 < 0
    · refine Sp_of g2 (dx := 3) (dm := 2) (by decide) (by decide) (X_tape_neg g2 g23 hx hy hz) (fun r h1 e => ?_)
      obtain ⟨rfl, e⟩ := e
      subst e
      have k42 : va_up h 2 (cX f 5) 42 = cM (nI k) (nI n) (nI (k ^ n)) (nI s) (nI E) mc kd l f (nI P) (nI L0) := (up_n _ _ (by decide)).trans g42
      exact ⟨_, _, rfl, k42, Ct.mono (M_tape_neg k42 ((up_n _ _ (by decide)).trans g55) ((up_n _ _ (by decide)).trans g56) hx hy hz) (fun r2 h2 q => ⟨q.1, by rw [q.2]; exact hm2.lat⟩)⟩
    · obtain ⟨t, ht, rfl⟩ := t4_pick hx
      obtain ⟨L, hL, rfl⟩ := nI_of2 (M := 200) (n := 200) (by decide) hz (Int32.not_lt.mp (fun q => hb (Or.inr (Or.inr q))))
      have htt2 := htt t ht
      obtain ⟨L2, it, bb, b1, b2, b3, b4, b5, b6, b7⟩ := htt2
      refine Sp_of g2 (dx := 3) (dm := 2) (by decide) (by decide) (X_tape g2 g23 htp ht b4 b5 hy hL) (fun r h1 e => ?_)
      obtain ⟨rfl, e⟩ := e
      have kf : Fr [3 * t + 22 + 2, 3 * t + 23 + 2] h h1 := by rw [e]; exact (Fr.rf.up (by simp)).up (by simp)
      have kt : h1 (3 * t + 22 + 2) = cTt t a2 (nI L) := by rw [e]; exact (up_n _ _ (by omega)).trans (up_s _ _ _)
      have ki : h1 (3 * t + 23 + 2) = aI 200 (fl it 0 L 0) := by rw [e]; exact up_s _ _ _
      have nin : ∀ c, 35 < c → c ∉ [3 * t + 22 + 2, 3 * t + 23 + 2] := fun c hc => by simp; omega
      have k42 := (kf 42 (nin 42 (by decide))).trans g42
      refine ⟨_, _, rfl, k42, Ct.mono (M_tape k42 ((kf 55 (nin _ (by decide))).trans g55) ((kf 56 (nin _ (by decide))).trans g56) ((kf 57 (nin _ (by decide))).trans g57) ht hL hy) (fun r2 h2 q => ?_)⟩
      obtain ⟨q1, q2⟩ := q
      have qf : Fr [55, 56, 57] h1 h2 := by rw [q2]; exact ((Fr.rf.up (by decide)).up (by decide)).up (by decide)
      have q55 : h2 55 = aI 4 (upd fs t a2) := by rw [q2]; exact (up_n _ _ (by decide)).trans ((up_n _ _ (by decide)).trans (up_s _ _ _))
      have q56 : h2 56 = aI 4 (upd sz t (nI L)) := by rw [q2]; exact (up_n _ _ (by decide)).trans (up_s _ _ _)
      have q57 : h2 57 = aI 800 (fl ri (200 * t) (200 * t + L) 0) := by rw [q2]; exact up_s _ _ _
      have hf := kf.tr2 qf
      refine ⟨q1, hm2.tap hf (tz_in ht (fun j hj => ?_)) ((hf 2 (by simp <;> omega)).trans g2) ((qf 42 (by decide)).trans k42) ⟨⟨tp, (hf 23 (by simp <;> omega)).trans g23, htp⟩, _, _, _, mv, q55, q56, q57, (hf 58 (by simp <;> omega)).trans g58, fun t2 ht2 => ?_⟩⟩
      · simp at hj
        rcases hj with q | q | q | q | q
        · exact Or.inl q
        · exact Or.inr (Or.inl q)
        · exact Or.inr (Or.inr (Or.inr (by rw [q]; decide)))
        · exact Or.inr (Or.inr (Or.inr (by rw [q]; decide)))
        · exact Or.inr (Or.inr (Or.inr (by rw [q]; decide)))
      · by_cases htt3 : t2 = t
        · subst htt3
          refine ⟨L, fl it 0 L 0, bb, hL, by rw [pk_us], ?_, ?_, (qf _ (by simp <;> omega)).trans ki, (hf _ (by simp <;> omega)).trans b6, fun j hj => ?_⟩
          · rw [pk_us]
            exact ⟨fun _ q => hy (Or.inl (by rw [q]; decide)), fun _ => Int32.not_lt.mp (fun q => hy (Or.inl q))⟩
          · rw [pk_us]
            exact (qf _ (by simp <;> omega)).trans kt
          · unfold fl
            by_cases hjL : j < L
            · rw [if_pos (by omega), if_pos (by omega)]
            · rw [if_neg (by omega), if_neg (by omega)]; exact b7 j hj
        · refine (htt t2 ht2).ot hf (by simp <;> omega) (by simp <;> omega) (by simp <;> omega) (pk_un htt3) (pk_un htt3) (fun j hj => if_neg (by omega))
theorem st_lose (hJ : J h) (a1 : Int32) : Sp G J mX7_lose mX8_lose [.int a1] h := by
  have hJ2 := hJ
  obtain ⟨k, n, s, F, T, E, kd, f, l, P, L0, mc, hm⟩ := hJ
  have hm2 := hm
  obtain ⟨-, g2, g42, -, -, ⟨⟨tp, g23, htp⟩, fs, sz, ri, mv, g55, g56, g57, g58, htt⟩, -⟩ := hm
  by_cases hb : a1 < 0 ∨ 4 ≤ a1
  · exact Sp_pure hJ2 g2 g42 (by decide) (by decide) (X_lose_no g2 g23 hb) (M_lose_no g42 g55 g56 hb) rfl
  · obtain ⟨t, ht, rfl⟩ := t4_pick hb
    obtain ⟨L2, it, bb, b1, b2, b3, b4, b5, b6, b7⟩ := htt t ht
    refine Sp_of g2 (dx := 1) (dm := 2) (by decide) (by decide) (X_lose g2 g23 htp ht b4) (fun r h1 e => ?_)
    by_cases hfm : fs t = -1
    · rw [if_pos hfm] at e
      obtain ⟨rfl, e⟩ := e
      subst e
      have k42 : va_up h 2 (cX f 1) 42 = cM (nI k) (nI n) (nI (k ^ n)) (nI s) (nI E) mc kd l f (nI P) (nI L0) := (up_n _ _ (by decide)).trans g42
      refine ⟨_, _, rfl, k42, Ct.mono (M_lose k42 ((up_n _ _ (by decide)).trans g55) ((up_n _ _ (by decide)).trans g56) ht) (fun r2 h2 q => ?_)⟩
      rw [if_neg (fun z => b3.mp z hfm)] at q
      exact ⟨q.1, by rw [q.2]; exact hm2.lat⟩
    · rw [if_neg hfm] at e
      obtain ⟨rfl, e⟩ := e
      have kf : Fr [3 * t + 22 + 2] h h1 := by rw [e]; exact Fr.rf.up (by simp)
      have kt : h1 (3 * t + 22 + 2) = cTt t (-1) (nI L2) := by rw [e]; exact up_s _ _ _
      have nin : ∀ c, 35 < c → c ∉ [3 * t + 22 + 2] := fun c hc => by simp; omega
      have k42 := (kf 42 (nin 42 (by decide))).trans g42
      refine ⟨_, _, rfl, k42, Ct.mono (M_lose k42 ((kf 55 (nin _ (by decide))).trans g55) ((kf 56 (nin _ (by decide))).trans g56) ht) (fun r2 h2 q => ?_)⟩
      rw [if_pos (b3.mpr hfm)] at q
      obtain ⟨q1, q2⟩ := q
      have qf : Fr [55] h1 h2 := by rw [q2]; exact Fr.rf.up (by decide)
      have q55 : h2 55 = aI 4 (upd fs t (-1)) := by rw [q2]; exact up_s _ _ _
      have hf := kf.tr2 qf
      refine ⟨by rw [q1, b2], hm2.tap hf (tz_in ht (fun j hj => ?_)) ((hf 2 (by simp <;> omega)).trans g2) ((qf 42 (by decide)).trans k42) ⟨⟨tp, (hf 23 (by simp <;> omega)).trans g23, htp⟩, _, sz, ri, mv, q55, (hf 56 (by simp <;> omega)).trans g56, (hf 57 (by simp <;> omega)).trans g57, (hf 58 (by simp <;> omega)).trans g58, fun t2 ht2 => ?_⟩⟩
      · simp at hj
        rcases hj with q | q
        · exact Or.inl q
        · exact Or.inr (Or.inr (Or.inr (by rw [q]; decide)))
      · by_cases htt3 : t2 = t
        · subst htt3
          refine ⟨L2, it, bb, b1, b2, ?_, ?_, (hf _ (by simp <;> omega)).trans b5, (hf _ (by simp <;> omega)).trans b6, b7⟩
          · rw [pk_us]
            decide
          · rw [pk_us]
            exact (qf _ (by simp <;> omega)).trans kt
        · exact (htt t2 ht2).ot hf (by simp <;> omega) (by simp <;> omega) (by simp <;> omega) (pk_un htt3) rfl (fun _ _ => rfl)
theorem st_get (hJ : J h) (a1 a2 a3 : Int32) : Sp G J mX7_get mX8_get [.int a1, .int a2, .int a3] h := by
  have hJ2 := hJ
  obtain ⟨k, n, s, F, T, E, kd, f, l, P, L0, mc, hm⟩ := hJ
  have hm2 := hm
  obtain ⟨-, g2, g42, -, -, ⟨⟨tp, g23, htp⟩, fs, sz, ri, mv, g55, g56, g57, g58, htt⟩, -⟩ := hm
  by_cases hb : (a1 < 0 ∨ 4 ≤ a1) ∨ (a2 < 0 ∨ 2 < a2)
  · exact Sp_pure hJ2 g2 g42 (by decide) (by decide) (X_get_no g2 g23 hb) (M_get_no g42 hb) rfl
  · obtain ⟨t, ht, rfl⟩ := t4_pick (fun q => hb (Or.inl q))
    have hy : ¬ (a2 < 0 ∨ 2 < a2) := fun q => hb (Or.inr q)
    obtain ⟨L2, it, bb, b1, b2, b3, b4, b5, b6, b7⟩ := htt t ht
    refine Sp_of g2 (dx := 2) (dm := 2) (by decide) (by decide) (X_get g2 g23 htp ht b1 b4 b5 hy) (fun r h1 e => ?_)
    by_cases hfo : fo (fs t) (nI L2) a2 a3 = 0
    · rw [if_pos hfo] at e
      obtain ⟨rfl, e⟩ := e
      subst e
      obtain ⟨-, -, j, hj, rfl⟩ := fo_0 b1 hfo
      refine ⟨_, _, rfl, g42, Ct.mono (M_get g42 g55 g56 g57 ht b1 b3 b2 hy) (fun r2 h2 q => ?_)⟩
      rw [if_pos hfo] at q
      exact ⟨by rw [q.1, nI_clamp (by omega), b7 j (by omega)], by rw [q.2]; exact hJ2⟩
    · rw [if_neg hfo] at e
      obtain ⟨rfl, e⟩ := e
      subst e
      have k42 : va_up h 2 (cX f (fo (fs t) (nI L2) a2 a3)) 42 = cM (nI k) (nI n) (nI (k ^ n)) (nI s) (nI E) mc kd l f (nI P) (nI L0) := (up_n _ _ (by decide)).trans g42
      refine ⟨_, _, rfl, k42, Ct.mono (M_get k42 ((up_n _ _ (by decide)).trans g55) ((up_n _ _ (by decide)).trans g56) ((up_n _ _ (by decide)).trans g57) ht b1 b3 b2 hy) (fun r2 h2 q => ?_)⟩
      rw [if_neg hfo] at q
      exact ⟨q.1, by rw [q.2]; exact hm2.lat⟩
/-- one tape's items change, on both sides alike -/
theorem JT.items {k n s E P L0 : Nat} {F T : Nat → Nat} {kd f l mc : Int32} {h1 h2 : ah} {t : Nat} {X : List Nat} {fs sz ri mv2 ri2 it2 : Nat → Int32} {tp : Nat → Option Nat} (hm : Jm k n s F T E kd f l P L0 mc h) (g23 : h 23 = (4, .inr (4, .inr (.inr tp)))) (htp : isTp tp) (g55 : h 55 = aI 4 fs) (g56 : h 56 = aI 4 sz) (htt : ∀ t, t < 4 → Jt fs sz ri h t) (ht : t < 4) (hX : X = [57] ∨ X = [57, 58]) (kf : Fr [3 * t + 23 + 2] h h1) (ki : h1 (3 * t + 23 + 2) = aI 200 it2) (qf : Fr X h1 h2) (q57 : h2 57 = aI 800 ri2) (q58 : h2 58 = aI 200 mv2) (e1 : ∀ j, j < 200 → ri2 (200 * t + j) = it2 j) (e2 : ∀ t2, t2 < 4 → t2 ≠ t → ∀ j, j < 200 → ri2 (200 * t2 + j) = ri (200 * t2 + j)) : J h2 := by
  have hx : ∀ c, c ≠ 57 → c ≠ 58 → c ∉ X := fun c c1 c2 => by
    rcases hX with rfl | rfl
    · simp; exact c1
    · simp; exact ⟨c1, c2⟩
  have hm2 := hm
  obtain ⟨-, g2, g42, -⟩ := hm
  have hf := kf.tr2 qf
  have nin : ∀ c, c ≠ 3 * t + 23 + 2 → c ≠ 57 → c ≠ 58 → c ∉ [3 * t + 23 + 2] ++ X := fun c c0 c1 c2 q => by
    rcases List.mem_append.mp q with z | z
    · simp at z; exact c0 z
    · exact hx c c1 c2 z
  refine hm2.tap hf (tz_in ht (fun j hj => ?_)) ((hf 2 (nin _ (by omega) (by decide) (by decide))).trans g2) ((hf 42 (nin _ (by omega) (by decide) (by decide))).trans g42) ⟨⟨tp, (hf 23 (nin _ (by omega) (by decide) (by decide))).trans g23, htp⟩, fs, sz, ri2, mv2, (hf 55 (nin _ (by omega) (by decide) (by decide))).trans g55, (hf 56 (nin _ (by omega) (by decide) (by decide))).trans g56, q57, q58, fun t2 ht2 => ?_⟩
  · rcases List.mem_append.mp hj with z | z
    · simp at z; exact Or.inr (Or.inl z)
    · refine Or.inr (Or.inr (Or.inr ?_))
      rcases hX with rfl | rfl
      · simp at z; rw [z]; decide
      · simp at z
        rcases z with z | z
        · rw [z]; decide
        · rw [z]; decide
  · by_cases htt3 : t2 = t
    · subst htt3
      obtain ⟨L2, it, bb, b1, b2, b3, b4, b5, b6, b7⟩ := htt t2 ht
      exact ⟨L2, it2, bb, b1, b2, b3, (hf _ (nin _ (by omega) (by omega) (by omega))).trans b4, (qf _ (hx _ (by omega) (by omega))).trans ki, (hf _ (nin _ (by omega) (by omega) (by omega))).trans b6, e1⟩
    · exact (htt t2 ht2).ot hf (nin _ (by omega) (by omega) (by omega)) (nin _ (by omega) (by omega) (by omega)) (nin _ (by omega) (by omega) (by omega)) rfl rfl (fun j hj => e2 t2 ht2 htt3 j hj)
theorem st_put (hJ : J h) (a1 a2 a3 a4 : Int32) : Sp G J mX7_put mX8_put [.int a1, .int a2, .int a3, .int a4] h := by
  have hJ2 := hJ
  obtain ⟨k, n, s, F, T, E, kd, f, l, P, L0, mc, hm⟩ := hJ
  have hm2 := hm
  obtain ⟨-, g2, g42, -, -, ⟨⟨tp, g23, htp⟩, fs, sz, ri, mv, g55, g56, g57, g58, htt⟩, -⟩ := hm
  by_cases hb : (a1 < 0 ∨ 4 ≤ a1) ∨ (a2 < 0 ∨ 2 < a2)
  · exact Sp_pure hJ2 g2 g42 (by decide) (by decide) (X_put_no g2 g23 hb) (M_put_no g42 hb) rfl
  · obtain ⟨t, ht, rfl⟩ := t4_pick (fun q => hb (Or.inl q))
    have hy : ¬ (a2 < 0 ∨ 2 < a2) := fun q => hb (Or.inr q)
    have hjt := htt t ht
    obtain ⟨L2, it, bb, b1, b2, b3, b4, b5, b6, b7⟩ := hjt
    refine Sp_of g2 (dx := 2) (dm := 2) (by decide) (by decide) (X_put g2 g23 htp ht b1 b4 b5 hy) (fun r h1 e => ?_)
    by_cases hfo : fo (fs t) (nI L2) a2 a3 = 0
    · rw [if_pos hfo] at e
      obtain ⟨rfl, e⟩ := e
      obtain ⟨-, -, j, hj, rfl⟩ := fo_0 b1 hfo
      rw [nI_clamp (by omega)] at e
      have kf : Fr [3 * t + 23 + 2] h h1 := by rw [e]; exact Fr.rf.up (by simp)
      have ki : h1 (3 * t + 23 + 2) = aI 200 (upd it j (ft (fs t) a4)) := by rw [e]; exact up_s _ _ _
      have nin : ∀ c, 35 < c → c ∉ [3 * t + 23 + 2] := fun c hc => by simp; omega
      have k42 := (kf 42 (nin 42 (by decide))).trans g42
      refine ⟨_, _, rfl, k42, Ct.mono (M_put k42 ((kf 55 (nin _ (by decide))).trans g55) ((kf 56 (nin _ (by decide))).trans g56) ((kf 57 (nin _ (by decide))).trans g57) ht b1 b3 b2 hy) (fun r2 h2 q => ?_)⟩
      rw [if_pos hfo, nI_clamp (by omega)] at q
      obtain ⟨q1, q2⟩ := q
      have qf : Fr [57] h1 h2 := by rw [q2]; exact Fr.rf.up (by decide)
      refine ⟨q1, JT.items hm2 g23 htp g55 g56 htt ht (Or.inl rfl) kf ki qf (by rw [q2]; exact up_s _ _ _) ((qf 58 (by decide)).trans ((kf 58 (nin _ (by decide))).trans g58)) (fun i hi => ?_) (fun t2 ht2 hne i hi => pk_un (by omega))⟩
      by_cases hij : i = j
      · rw [hij, pk_us, pk_us]
      · rw [pk_un hij, pk_un (by omega)]; exact b7 i hi
    · rw [if_neg hfo] at e
      obtain ⟨rfl, e⟩ := e
      subst e
      have k42 : va_up h 2 (cX f (fo (fs t) (nI L2) a2 a3)) 42 = cM (nI k) (nI n) (nI (k ^ n)) (nI s) (nI E) mc kd l f (nI P) (nI L0) := (up_n _ _ (by decide)).trans g42
      refine ⟨_, _, rfl, k42, Ct.mono (M_put k42 ((up_n _ _ (by decide)).trans g55) ((up_n _ _ (by decide)).trans g56) ((up_n _ _ (by decide)).trans g57) ht b1 b3 b2 hy) (fun r2 h2 q => ?_)⟩
      rw [if_neg hfo] at q
      exact ⟨q.1, by rw [q.2]; exact hm2.lat⟩
theorem st_copy (hJ : J h) (a1 a2 a3 a4 a5 : Int32) : Sp G J mX7_copy mX8_copy [.int a1, .int a2, .int a3, .int a4, .int a5] h := by
  have hJ2 := hJ
  obtain ⟨k, n, s, F, T, E, kd, f, l, P, L0, mc, hm⟩ := hJ
  have hm2 := hm
  obtain ⟨-, g2, g42, -, -, ⟨⟨tp, g23, htp⟩, fs, sz, ri, mv, g55, g56, g57, g58, htt⟩, -⟩ := hm
  by_cases hb : (a1 < 0 ∨ 4 ≤ a1) ∨ (a3 < 0 ∨ 4 ≤ a3)
  · exact Sp_pure hJ2 g2 g42 (by decide) (by decide) (X_copy_no g2 g23 hb) (M_copy_no g42 g55 hb) rfl
  · obtain ⟨t, ht, rfl⟩ := t4_pick (fun q => hb (Or.inl q))
    obtain ⟨u, hu, rfl⟩ := t4_pick (fun q => hb (Or.inr q))
    obtain ⟨L1, it1, bb1, c1, c2, c3, c4, c5, c6, c7⟩ := htt t ht
    obtain ⟨L2, it2, bb2, d1, d2, d3, d4, d5, d6, d7⟩ := htt u hu
    refine Sp_of g2 (dx := 2) (dm := 2) (by decide) (by decide) (X_copy g2 g23 htp ht hu c1 d1 c4 c5 d4 d5) (fun r h1 e => ?_)
    by_cases hfo : fc (fs t) (fs u) L1 L2 a2 a4 a5 = 0
    · rw [if_pos hfo] at e
      obtain ⟨rfl, e⟩ := e
      have kf : Fr [3 * u + 23 + 2] h h1 := by rw [e]; exact Fr.rf.up (by simp)
      have ki : h1 (3 * u + 23 + 2) = aI 200 (wr (fun j => it1 (a2.toNatClampNeg + j)) it2 a4.toNatClampNeg a5.toNatClampNeg) := by rw [e]; exact up_s _ _ _
      have nin : ∀ c, 35 < c → c ∉ [3 * u + 23 + 2] := fun c hc => by simp; omega
      have k42 := (kf 42 (nin 42 (by decide))).trans g42
      refine ⟨_, _, rfl, k42, Ct.mono (M_copy k42 ((kf 55 (nin _ (by decide))).trans g55) ((kf 56 (nin _ (by decide))).trans g56) ((kf 57 (nin _ (by decide))).trans g57) ((kf 58 (nin _ (by decide))).trans g58) ht hu c1 d1 c3 d3 c2 d2) (fun r2 h2 q => ?_)⟩
      rw [if_pos hfo] at q
      obtain ⟨q1, q57, ⟨mv2, q58⟩, qf⟩ := q
      have hw1 : ¬ wi L1 a2 a5 ∧ ¬ wi L2 a4 a5 := by
        unfold fc at hfo
        split at hfo
        · exact absurd hfo (by decide)
        · split at hfo
          · exact absurd hfo (by decide)
          · split at hfo
            · exact absurd hfo (by decide)
            · rename_i z
              exact ⟨fun q => z (Or.inl q), fun q => z (Or.inr q)⟩
      obtain ⟨i, m, him, rfl, rfl⟩ := wi_pick c1 hw1.1
      obtain ⟨j, m2, hjm, rfl, hmm⟩ := wi_pick d1 hw1.2
      have hmm2 : m = m2 := (nI_eq (by omega) (by omega)).mp hmm
      subst hmm2
      rw [nI_clamp (n := i) (by omega), nI_clamp (n := j) (by omega), nI_clamp (n := m) (by omega)] at ki q57
      refine ⟨q1, JT.items hm2 g23 htp g55 g56 htt hu (Or.inr rfl) kf ki qf q57 q58 (fun q hq => ?_) (fun t2 ht2 hne q hq => if_neg (by omega))⟩
      unfold wr
      by_cases hc : j ≤ q ∧ q < j + m
      · rw [if_pos (by omega), if_pos hc]
        show ri (200 * t + i + (200 * u + q - (200 * u + j))) = it1 (i + (q - j))
        rw [show 200 * t + i + (200 * u + q - (200 * u + j)) = 200 * t + (i + (q - j)) by omega]
        exact c7 _ (by omega)
      · rw [if_neg (by omega), if_neg hc]; exact d7 q hq
    · rw [if_neg hfo] at e
      obtain ⟨rfl, e⟩ := e
      subst e
      have k42 : va_up h 2 (cX f (fc (fs t) (fs u) L1 L2 a2 a4 a5)) 42 = cM (nI k) (nI n) (nI (k ^ n)) (nI s) (nI E) mc kd l f (nI P) (nI L0) := (up_n _ _ (by decide)).trans g42
      refine ⟨_, _, rfl, k42, Ct.mono (M_copy k42 ((up_n _ _ (by decide)).trans g55) ((up_n _ _ (by decide)).trans g56) ((up_n _ _ (by decide)).trans g57) ((up_n _ _ (by decide)).trans g58) ht hu c1 d1 c3 d3 c2 d2) (fun r2 h2 q => ?_)⟩
      rw [if_neg hfo] at q
      exact ⟨q.1, by rw [q.2]; exact hm2.lat⟩
end ST4
