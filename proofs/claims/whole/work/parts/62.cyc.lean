/-! the register's cycles: contracts -/
/-- numbers and leads stand -/
def RN (k n s : Nat) (T : Nat → Nat) (e : Int32) (h : ah) : Prop := h 9 = cR (nI s) e 1 1 (nI (nQ T (k ^ n))) 1 ∧ (∃ l, h 13 = aI 20000 l ∧ ∀ w, w < k ^ n → l w = nI (T w)) ∧ (∃ c, h 14 = aI 20000 c ∧ ∀ w, w < k ^ n → c w = nC T (k ^ n) w) ∧ (∃ l, h 15 = aI 20000 l ∧ ∀ j, j < nQ T (k ^ n) → l j = nL T (k ^ n) j)
/-- the register's rows: its leads are T, what stands is T's -/
def RG (k n s : Nat) (F T : Nat → Nat) (e : Int32) (h : ah) : Prop := ∃ (s1 s2 c s3 : Int32) (l0 cn lw pw ff : Nat → Int32), h 3 = cW k n ∧ h 4 = aI 15 pw ∧ isP k n pw ∧ h 9 = cR (nI s) e s1 s2 c s3 ∧ h 10 = aI 14 ff ∧ isF F ff ∧ h 13 = aI 20000 l0 ∧ Lst k n s F T s1 l0 ∧ h 14 = aI 20000 cn ∧ h 15 = aI 20000 lw ∧ (s2 = 0 ∨ s2 = 1 ∧ s1 = 1 ∧ s3 = 1 ∧ (∀ w, w < k ^ n → cn w = nC T (k ^ n) w) ∧ ∀ j, j < nQ T (k ^ n) → lw j = nL T (k ^ n) j) ∧ (s3 = 0 ∨ s3 = 1 ∧ s1 = 1 ∧ c = nI (nQ T (k ^ n)))
theorem RN.rg {k n s : Nat} {F T : Nat → Nat} {e e0 : Int32} {h h2 : ah} (hr : RN k n s T e h2) (hg : RG k n s F T e0 h) (hf : Fr [9, 13, 14, 15] h h2) : RG k n s F T e h2 := by
  obtain ⟨s1, s2, c, s3, l0, cn, lw, pw, ff, a1, a2, a3, a4, a5, a6, a7, a8, a9, a10, a11, a12⟩ := hg
  obtain ⟨b1, ⟨l, b2, b3⟩, ⟨cc, b4, b5⟩, ⟨ll, b6, b7⟩⟩ := hr
  exact ⟨1, 1, _, 1, l, cc, ll, pw, ff, (hf 3 (by decide)).trans a1, (hf 4 (by decide)).trans a2, a3, b1, (hf 10 (by decide)).trans a5, a6, b2, Or.inr ⟨rfl, b3⟩, b4, b6, Or.inr ⟨rfl, rfl, rfl, b5, b7⟩, Or.inr ⟨rfl, rfl, rfl⟩⟩
section RC
variable {G : gx} {k n s : Nat} {F T : Nat → Nat} {e : Int32}
theorem C_markCycle {h : ah} {a s1 s2 c s3 : Int32} {w : Nat} {z : Int32} {l0 ca cp : Nat → Int32} (ok : okW k n) (hT : ∀ x, x < k ^ n → T x < k ^ n) (g3 : h 3 = cW k n) (g9 : h 9 = cR a e s1 s2 c s3) (g13 : h 13 = aI 20000 l0) (hl : ∀ w, w < k ^ n → l0 w = nI (T w)) (g14 : h 14 = aI 20000 ca) (hc : ∀ y, y < k ^ n → ca y = cp y) (hw : w < k ^ n) {d : Nat} : Ct G mX2_markCycle d 0 0 [.ref 9, .int (nI w), .int z] h (fun r h2 => r = none ∧ (∃ c2, h2 14 = aI 20000 c2 ∧ ∀ y, y < k ^ n → c2 y = mark T z (k ^ n) cp w y) ∧ Fr [14] h h2) := by
  have hN := ok.le (Nat.le_refl n)
  generalize hQ : (fun (r : Option Value) (h2 : ah) => r = none ∧ (∃ c2, h2 14 = aI 20000 c2 ∧ ∀ y, y < k ^ n → c2 y = mark T z (k ^ n) cp w y) ∧ Fr [14] h h2) = Q
  have key : ∀ q i x (hh : ah) (ca cq : Nat → Int32), i + q = k ^ n → x < k ^ n → hh 14 = aI 20000 ca → (∀ y, y < k ^ n → ca y = cq y) → (∀ y, y < k ^ n → mark T z q cq x y = mark T z (k ^ n) cp w y) → Fr [14] h hh → V G mX2_markCycle (b0 d) 5 [some (.ref 9), some (.int (nI w)), some (.int z), some (.int (nI x)), some (.int (nI i))] [] hh Q := by
    intro q
    induction q with
    | zero =>
      intro i x hh ca cq hi hx k14 kc km kf
      have kle : nI (k ^ n) ≤ nI i := nI_le (by omega) (by omega)
      refine tX2_markCycle_5 ((kf 9 (by decide)).trans g9) ((kf 3 (by decide)).trans g3) k14 ((kf 13 (by decide)).trans g13) (fun _ => ?_) (fun e => absurd kle e) (fun e => absurd kle e) (fun e => absurd kle e) (fun e => absurd kle e) (fun e => absurd kle e)
      rw [← hQ]
      exact ⟨rfl, ⟨ca, k14, fun y hy => (kc y hy).trans (km y hy)⟩, kf⟩
    | succ q ih =>
      intro i x hh ca cq hi hx k14 kc km kf
      have cx : (nI x).toNatClampNeg = x := nI_clamp (by omega)
      have vx : vp_in (nI x) 20000 := vp_in_nI (by omega) (by decide)
      refine tX2_markCycle_5 ((kf 9 (by decide)).trans g9) ((kf 3 (by decide)).trans g3) k14 ((kf 13 (by decide)).trans g13) (fun e => absurd e (nI_ge (by omega) (by omega))) (fun _ => vx) (fun _ e => ?_) (fun _ _ => vx) (fun _ _ => vx) (fun _ e => ?_)
      · rw [cx, kc x hx] at e
        rw [← hQ]
        refine ⟨rfl, ⟨ca, k14, fun y hy => ?_⟩, kf⟩
        rw [kc y hy, ← km y hy]
        unfold mark
        rw [if_neg e]
      · rw [cx, kc x hx] at e
        rw [cx, hl x hx, nI_1]
        refine ih (i + 1) (T x) _ _ (upd cq x z) (by omega) (hT x hx) (up_s _ _ _) (upd_ag kc) (fun y hy => ?_) (kf.up (by decide))
        rw [← km y hy]
        conv => rhs; unfold mark
        rw [if_pos e]
  refine Ct_of (by decide +kernel) (Nat.le_of_ble_eq_true rfl) (tX2_markCycle_0 ?_)
  exact key (k ^ n) 0 w h ca cp (by omega) hw g14 hc (fun _ _ => rfl) Fr.rf
theorem C_numberCycles {h : ah} (ok : okW k n) (hF : okF k F) (hs : s < k) (hT : pm (k ^ n) T) (hg : RG k n s F T e h) : Ct G mX2_numberCycles 2 0 0 [.ref 9] h (fun r h2 => r = none ∧ RN k n s T e h2 ∧ Fr [9, 13, 14, 15] h h2) := by
  have hN := ok.le (Nat.le_refl n)
  obtain ⟨s1, s2, c, s3, l0, cn, lw, pw, ff, g3, g4, hp, g9, g10, hff, g13, hL, g14, g15, hn, hc⟩ := hg
  generalize hQ : (fun (r : Option Value) (h2 : ah) => r = none ∧ RN k n s T e h2 ∧ Fr [9, 13, 14, 15] h h2) = Q
  refine Ct_of (by decide +kernel) (Nat.le_of_ble_eq_true rfl) (tX2_numberCycles_0 g9 (fun e1 => ?_) (fun e1 => ?_))
  · have h20 : s2 = 0 := e1
    subst h20
    refine cX2_numberCycles_9 (k := 7) (C_leads ok hF hs g3 g4 hp g9 g10 hff g13 hL) g9 ⟨by decide, by decide⟩ (Nat.le_of_ble_eq_true rfl) ⟨Nat.le_refl _, Nat.le_refl _⟩ (fun r h1 e2 => ?_)
    obtain ⟨rfl, k9, ⟨l2, k13, kl⟩, kf⟩ := e2
    refine tX2_numberCycles_12 k9 ((kf 3 (by decide)).trans g3) ?_
    refine cX2_numberCycles_26 (C_fillI (p := 12) (a := 0) (b := k ^ n) (n := 20000) (-1) ((kf 14 (by decide)).trans g14) (Nat.zero_le _) hN (by decide)) ⟨by decide, by decide⟩ (Nat.le_of_ble_eq_true rfl) ⟨Nat.le_refl _, Nat.le_refl _⟩ (fun r h2 e2 => ?_)
    obtain ⟨rfl, e2⟩ := e2; replace e2 := e2.symm; subst e2
    refine tX2_numberCycles_29 ((up_n _ _ (by decide)).trans k9) ?_
    have out : ∀ m w (hh : ah) (ca cp la lp : Nat → Int32) q, w + m = k ^ n → q ≤ w → hh 9 = cR (nI s) e 1 0 (nI q) s3 → hh 13 = aI 20000 l2 → hh 14 = aI 20000 ca → (∀ y, y < k ^ n → ca y = cp y) → hh 15 = aI 20000 la → (∀ j, j < q → la j = lp j) → numb T (k ^ n) m w cp lp q = nr T (k ^ n) → Fr [9, 13, 14, 15] h hh → V G mX2_numberCycles (b0 2) 36 [some (.ref 9), some (.int (nI w))] [] hh Q := by
      intro m
      induction m with
      | zero =>
        intro w hh ca cp la lp q hw hq c9 c13 c14 cc c15 cl cn cf
        have kle : nI (k ^ n) ≤ nI w := nI_le (by omega) (by omega)
        refine tX2_numberCycles_36 c9 ((cf 3 (by decide)).trans g3) c14 c15 (fun _ => ?_) (fun e => absurd kle e) (fun e => absurd kle e) (fun e => absurd kle e) (fun e => absurd kle e)
        have e1 : cp = nC T (k ^ n) := congrArg (fun z => z.1) cn
        have e2 : lp = nL T (k ^ n) := congrArg (fun z => z.2.1) cn
        have e3 : q = nQ T (k ^ n) := congrArg (fun z => z.2.2) cn
        rw [← hQ]
        refine ⟨rfl, ⟨?_, ⟨l2, ?_, kl⟩, ⟨ca, ?_, ?_⟩, ⟨la, ?_, ?_⟩⟩, (cf.up (by decide)).up (by decide)⟩
        · rw [up_s, e3]
        · exact (up_n _ _ (by decide)).trans ((up_n _ _ (by decide)).trans c13)
        · exact (up_n _ _ (by decide)).trans ((up_n _ _ (by decide)).trans c14)
        · rw [← e1]; exact cc
        · exact (up_n _ _ (by decide)).trans ((up_n _ _ (by decide)).trans c15)
        · rw [← e2, ← e3]; exact cl
      | succ m ih =>
        intro w hh ca cp la lp q hw hq c9 c13 c14 cc c15 cl cn cf
        have cw : (nI w).toNatClampNeg = w := nI_clamp (by omega)
        have g32 := (cf 3 (by decide)).trans g3
        unfold numb at cn
        refine tX2_numberCycles_36 c9 g32 c14 c15 (fun e => absurd e (nI_ge (by omega) (by omega))) (fun _ => vp_in_nI (by omega) (by decide)) (fun _ e => ?_) (fun _ _ => vp_in_nI (by omega) (by decide)) (fun _ e => ?_)
        · rw [cw, cc w (by omega)] at e
          rw [if_neg e] at cn
          rw [nI_1]
          exact ih (w + 1) hh ca cp la lp q (by omega) (by omega) c9 c13 c14 cc c15 cl cn cf
        · rw [cw, cc w (by omega)] at e
          rw [if_pos e] at cn
          rw [nI_clamp (n := q) (by omega)]
          refine cX2_numberCycles_73 (k := 7) (h := va_up hh 15 (aI 20000 (upd la q (nI w)))) (C_markCycle (w := w) (z := nI q) (cp := cp) ok hT.1 ((up_n _ _ (by decide)).trans g32) ((up_n _ _ (by decide)).trans c9) ((up_n _ _ (by decide)).trans c13) kl ((up_n _ _ (by decide)).trans c14) cc (by omega) (d := 0)) ((up_n _ _ (by decide)).trans c9) ⟨by decide, by decide⟩ (Nat.le_of_ble_eq_true rfl) ⟨Nat.le_refl _, Nat.le_refl _⟩ (fun r h5 e2 => ?_)
          obtain ⟨rfl, ⟨c2, d14, dc⟩, df⟩ := e2
          refine tX2_numberCycles_76 ((df 9 (by decide)).trans ((up_n _ _ (by decide)).trans c9)) ?_
          rw [nI_1, nI_1]
          refine ih (w + 1) _ c2 (mark T (nI q) (k ^ n) cp w) (upd la q (nI w)) (upd lp q (nI w)) (q + 1) (by omega) (by omega) (up_s _ _ _) ((up_n _ _ (by decide)).trans ((df 13 (by decide)).trans ((up_n _ _ (by decide)).trans c13))) ((up_n _ _ (by decide)).trans d14) dc ((up_n _ _ (by decide)).trans ((df 15 (by decide)).trans (up_s _ _ _))) (fun j hj => ?_) cn ((Fr.tr (cf.up (by decide)) df (by decide)).up (by decide))
          by_cases hjq : j = q
          · rw [hjq, pk_us, pk_us]
          · rw [pk_un hjq, pk_un hjq]; exact cl j (by omega)
    refine out (k ^ n) 0 _ (fl cn 0 (k ^ n) (-1)) (fun _ => -1) lw (fun _ => 0) 0 (by omega) (Nat.le_refl _) (up_s _ _ _) ((up_n _ _ (by decide)).trans ((up_n _ _ (by decide)).trans k13)) ((up_n _ _ (by decide)).trans (up_s _ _ _)) (fun y hy => if_pos ⟨Nat.zero_le _, hy⟩) ((up_n _ _ (by decide)).trans ((up_n _ _ (by decide)).trans ((kf 15 (by decide)).trans g15))) (fun j hj => absurd hj (Nat.not_lt_zero j)) rfl ?_
    exact ((kf.mono (by decide)).up (by decide)).up (by decide)
  · rcases hn with hn | ⟨rfl, rfl, rfl, hn1, hn2⟩
    · exact absurd hn e1
    · rcases hc with hc | ⟨-, -, rfl⟩
      · exact absurd hc (by decide)
      · rcases hL with ⟨hL, -⟩ | ⟨-, hL⟩
        · exact absurd hL (by decide)
        · rw [← hQ]
          exact ⟨rfl, ⟨g9, ⟨l0, g13, hL⟩, ⟨cn, g14, hn1⟩, ⟨lw, g15, hn2⟩⟩, Fr.rf⟩
theorem C_howManyC {h : ah} (ok : okW k n) (hF : okF k F) (hs : s < k) (hT : pm (k ^ n) T) (hg : RG k n s F T e h) : Ct G mX2_howManyCycles 3 0 0 [.ref 9] h (fun r h2 => r = some (.int (nI (nQ T (k ^ n)))) ∧ RG k n s F T e h2 ∧ (∃ s2, h2 9 = cR (nI s) e 1 s2 (nI (nQ T (k ^ n))) 1) ∧ Fr [9, 13, 14, 15] h h2) := by
  have hg2 := hg
  obtain ⟨s1, s2, c, s3, l0, cn, lw, pw, ff, g3, g4, hp, g9, g10, hff, g13, hL, g14, g15, hn, hc⟩ := hg
  refine Ct_of (by decide +kernel) (Nat.le_of_ble_eq_true rfl) (tX2_howManyCycles_0 g9 (fun e1 => ?_) (fun e1 => ?_))
  · rcases hc with hc | ⟨rfl, rfl, rfl⟩
    · exact absurd hc e1
    · exact ⟨rfl, hg2, ⟨_, g9⟩, Fr.rf⟩
  · refine cX2_howManyCycles_8 (k := 7) (C_numberCycles ok hF hs hT hg2) g9 ⟨by decide, by decide⟩ (Nat.le_of_ble_eq_true rfl) ⟨Nat.le_refl _, Nat.le_refl _⟩ (fun r h2 e2 => ?_)
    obtain ⟨rfl, hr, hf⟩ := e2
    exact tX2_howManyCycles_11 hr.1 ⟨rfl, hr.rg hg2 hf, ⟨_, hr.1⟩, hf⟩
theorem C_numberOf {h : ah} {w : Nat} (ok : okW k n) (hF : okF k F) (hs : s < k) (hT : pm (k ^ n) T) (hg : RG k n s F T e h) (hw : w < k ^ n) : Ct G mX2_numberOfCycle 3 0 0 [.ref 9, .int (nI w)] h (fun r h2 => r = some (.int (nC T (k ^ n) w)) ∧ RG k n s F T e h2 ∧ Fr [9, 13, 14, 15] h h2) := by
  have hN := ok.le (Nat.le_refl n)
  have hg2 := hg
  obtain ⟨s1, s2, c, s3, l0, cn, lw, pw, ff, g3, g4, hp, g9, -⟩ := hg
  refine Ct_of (by decide +kernel) (Nat.le_of_ble_eq_true rfl) (tX2_numberOfCycle_0 ?_)
  refine cX2_numberOfCycle_1 (k := 7) (C_numberCycles ok hF hs hT hg2) g9 ⟨by decide, by decide⟩ (Nat.le_of_ble_eq_true rfl) ⟨Nat.le_refl _, Nat.le_refl _⟩ (fun r h2 e2 => ?_)
  obtain ⟨rfl, hr, hf⟩ := e2
  have hr2 := hr
  obtain ⟨k9, -, ⟨cc, k14, kc⟩, -⟩ := hr
  refine tX2_numberOfCycle_4 k9 k14 (vp_in_nI (by omega) (by decide)) ⟨?_, hr2.rg hg2 hf, hf⟩
  rw [nI_clamp (by omega), kc w hw]
theorem C_leastOfC {h : ah} {j : Nat} (ok : okW k n) (hF : okF k F) (hs : s < k) (hT : pm (k ^ n) T) (hg : RG k n s F T e h) (hj : j < nQ T (k ^ n)) : Ct G mX2_leastOfCycle 3 0 0 [.ref 9, .int (nI j)] h (fun r h2 => r = some (.int (nL T (k ^ n) j)) ∧ RG k n s F T e h2 ∧ Fr [9, 13, 14, 15] h h2) := by
  have hN := ok.le (Nat.le_refl n)
  have hq := nQ_le hT hN
  have hg2 := hg
  obtain ⟨s1, s2, c, s3, l0, cn, lw, pw, ff, g3, g4, hp, g9, -⟩ := hg
  refine Ct_of (by decide +kernel) (Nat.le_of_ble_eq_true rfl) (tX2_leastOfCycle_0 ?_)
  refine cX2_leastOfCycle_1 (k := 7) (C_numberCycles ok hF hs hT hg2) g9 ⟨by decide, by decide⟩ (Nat.le_of_ble_eq_true rfl) ⟨Nat.le_refl _, Nat.le_refl _⟩ (fun r h2 e2 => ?_)
  obtain ⟨rfl, hr, hf⟩ := e2
  have hr2 := hr
  obtain ⟨k9, -, -, ⟨ll, k15, kl⟩⟩ := hr
  refine tX2_leastOfCycle_4 k9 k15 (vp_in_nI (by omega) (by decide)) ⟨?_, hr2.rg hg2 hf, hf⟩
  rw [nI_clamp (by omega), kl j hj]
/-- how many words a cycle has -/
theorem cyc_cs {N : Nat} {T : Nat → Nat} (h : pm N T) {x p : Nat} (hx : x < N) (hp : 1 ≤ p ∧ p ≤ N ∧ itr T p x = x) (hmin : ∀ q, q < p → ¬ (1 ≤ q ∧ q ≤ N ∧ itr T q x = x)) {S : Nat → Bool} (hS : ∀ y, y < N → (S y = true ↔ rel T x y)) : cs S N = p := by
  obtain ⟨p1, pN, p3⟩ := hp
  have dis : ∀ i j, i < j → j < p → itr T i x ≠ itr T j x := fun i j hij hj e => by
    have e2 : itr T i x = itr T i (itr T (j - i) x) := by rw [← itr_add, show i + (j - i) = j by omega]; exact e
    exact hmin (j - i) (by omega) ⟨by omega, by omega, (itr_inj h hx (itr_lt h hx _) i e2).symm⟩
  have key : ∀ m (S2 : Nat → Bool), m ≤ p → (∀ y, y < N → (S2 y = true ↔ ∃ i, i < m ∧ itr T i x = y)) → cs S2 N = m := by
    intro m
    induction m with
    | zero =>
      intro S2 _ hS2
      have : ∀ M, M ≤ N → cs S2 M = 0 := by
        intro M
        induction M with
        | zero => intro _; rfl
        | succ M ih =>
          intro hM
          have hf : S2 M = false := by
            cases hb : S2 M
            · rfl
            · obtain ⟨i, hi, -⟩ := (hS2 M (by omega)).mp hb
              exact absurd hi (Nat.not_lt_zero i)
          show cs S2 M + (S2 M).toNat = 0
          rw [hf, ih (by omega)]
          rfl
      exact this N (Nat.le_refl _)
    | succ m ih =>
      intro S2 hm hS2
      have hy : S2 (itr T m x) = true := (hS2 _ (itr_lt h hx m)).mpr ⟨m, by omega, rfl⟩
      rw [← cs_rm hy N (itr_lt h hx m)]
      congr 1
      refine ih _ (by omega) (fun y hyN => ?_)
      by_cases hym : y = itr T m x
      · rw [if_pos hym]
        refine ⟨fun z => absurd z (by decide), fun ⟨i, hi, e⟩ => absurd (e.trans hym) (dis i m hi (by omega))⟩
      · rw [if_neg hym, hS2 y hyN]
        refine ⟨fun ⟨i, hi, e⟩ => ⟨i, ?_, e⟩, fun ⟨i, hi, e⟩ => ⟨i, by omega, e⟩⟩
        rcases Nat.lt_or_ge i m with z | z
        · exact z
        · have : i = m := by omega
          rw [this] at e
          exact absurd e.symm hym
  refine key p S (Nat.le_refl _) (fun y hy => ?_)
  rw [hS y hy]
  refine ⟨fun ⟨i, e⟩ => ⟨i % p, Nat.mod_lt _ p1, ?_⟩, fun ⟨i, _, e⟩ => ⟨i, e⟩⟩
  have := Nat.div_add_mod i p
  rw [← e]
  calc itr T (i % p) x = itr T (i % p + i / p * p) x := by rw [itr_add, itr_mul p3]
    _ = _ := by rw [Nat.mul_comm (i / p), Nat.add_comm, this]
theorem C_wordsOf {h : ah} {j : Nat} (ok : okW k n) (hF : okF k F) (hs : s < k) (hT : pm (k ^ n) T) (hg : RG k n s F T e h) (hj : j < nQ T (k ^ n)) : Ct G mX2_wordsOfCycle 3 0 0 [.ref 9, .int (nI j)] h (fun r h2 => r = some (.int (nI (cs (fun w => decide (nC T (k ^ n) w = nI j)) (k ^ n)))) ∧ RG k n s F T e h2 ∧ Fr [9, 13, 14, 15] h h2) := by
  have hN := ok.le (Nat.le_refl n)
  have hq := nQ_le hT hN
  have hg2 := hg
  obtain ⟨s1, s2, c, s3, l0, cn, lw, pw, ff, g3, g4, hp, g9, -⟩ := hg
  obtain ⟨l, lN, l1, l2, l3⟩ := nL_val hT hN hj
  obtain ⟨p, hp1, hmin⟩ := per hT lN
  have hcnt := cyc_cs hT lN hp1 hmin (S := fun w => decide (nC T (k ^ n) w = nI j)) (fun y hy => by
    rw [decide_eq_true_iff, ← l2, ← nC_rel hT hN lN hy]
    exact ⟨fun e => e.symm, fun e => e.symm⟩)
  rw [hcnt]
  obtain ⟨p1, pN, p3⟩ := hp1
  refine Ct_of (by decide +kernel) (Nat.le_of_ble_eq_true rfl) (tX2_wordsOfCycle_0 ?_)
  refine cX2_wordsOfCycle_1 (k := 7) (C_numberCycles ok hF hs hT hg2) g9 ⟨by decide, by decide⟩ (Nat.le_of_ble_eq_true rfl) ⟨Nat.le_refl _, Nat.le_refl _⟩ (fun r h2 e2 => ?_)
  obtain ⟨rfl, hr, hf⟩ := e2
  have hr2 := hr.rg hg2 hf
  obtain ⟨k9, ⟨ld, k13, kd⟩, -, ⟨ll, k15, kl⟩⟩ := hr
  have ev : ll (nI j).toNatClampNeg = nI l := by rw [nI_clamp (by omega), kl j hj, l1]
  refine tX2_wordsOfCycle_4 k9 k15 k13 (vp_in_nI (by omega) (by decide)) (by rw [ev]; exact vp_in_nI (by omega) (by decide)) ?_
  rw [ev, nI_clamp (by omega), kd l lN]
  have key : ∀ m i, i + m = p → 1 ≤ i → V G mX2_wordsOfCycle (3, 0, 0, 0 + 0, 0 + 0) 21 [some (.ref 9), some (.int (nI j)), some (.int (nI l)), some (.int (nI (itr T i l))), some (.int (nI i))] [] h2 (fun r h2 => r = some (.int (nI p)) ∧ RG k n s F T e h2 ∧ Fr [9, 13, 14, 15] h h2) := by
    intro m
    induction m with
    | zero =>
      intro i hi h1
      have hip : i = p := by omega
      have k3 := (hf 3 (by decide)).trans g3
      rw [hip, p3]
      exact tX2_wordsOfCycle_21 k9 k3 k13 (fun _ => ⟨rfl, hr2, hf⟩) (fun _ _ => ⟨rfl, hr2, hf⟩) (fun _ e => absurd rfl e) (fun _ e => absurd rfl e)
    | succ m ih =>
      intro i hi h1
      have hti := itr_lt hT lN i
      have k3 := (hf 3 (by decide)).trans g3
      refine tX2_wordsOfCycle_21 k9 k3 k13 (fun e => absurd e (nI_ge (by omega) (by omega))) (fun _ e => ?_) (fun _ _ => vp_in_nI (by omega) (by decide)) (fun _ _ => ?_)
      · exact absurd ⟨h1, by omega, (nI_eq (by omega) (by omega)).mp e⟩ (hmin i (by omega))
      · rw [nI_1, nI_clamp (by omega), kd _ hti]
        exact ih (i + 1) (by omega) (by omega)
  exact key (p - 1) 1 (by omega) (Nat.le_refl _)
end RC
section MC
variable {G : gx} {h : ah} {k n : Nat} {ms mx mc mw ml mf mp mg : Int32} {T : Nat → Nat} {tt nn : Nat → Int32}
theorem M_findCycles (ok : okW k n) (hT : pm (k ^ n) T) (g42 : h 42 = cM (nI k) (nI n) (nI (k ^ n)) ms mx mc mw ml mf mp mg) (g47 : h 47 = aI 20000 tt) (htt : ∀ w, w < k ^ n → tt w = nI (T w)) (g51 : h 51 = aI 20000 nn) {d : Nat} : Ct G mX8_findCycles d 0 0 [.ref 42] h (fun r h2 => r = none ∧ h2 42 = cM (nI k) (nI n) (nI (k ^ n)) ms mx (nI (nQ T (k ^ n))) mw ml mf mp mg ∧ (∃ c, h2 51 = aI 20000 c ∧ ∀ w, w < k ^ n → c w = nC T (k ^ n) w) ∧ Fr [42, 51] h h2) := by
  have hN := ok.le (Nat.le_refl n)
  generalize hQ : (fun (r : Option Value) (h2 : ah) => r = none ∧ h2 42 = cM (nI k) (nI n) (nI (k ^ n)) ms mx (nI (nQ T (k ^ n))) mw ml mf mp mg ∧ (∃ c, h2 51 = aI 20000 c ∧ ∀ w, w < k ^ n → c w = nC T (k ^ n) w) ∧ Fr [42, 51] h h2) = Q
  have out : ∀ m w (hh : ah) (ca cp lp : Nat → Int32) q, w + m = k ^ n → q ≤ w → hh 42 = cM (nI k) (nI n) (nI (k ^ n)) ms mx (nI q) mw ml mf mp mg → hh 51 = aI 20000 ca → (∀ y, y < k ^ n → ca y = cp y) → numb T (k ^ n) m w cp lp q = nr T (k ^ n) → Fr [42, 51] h hh → V G mX8_findCycles (b0 d) 30 [some (.ref 42), some (.int (nI w))] [] hh Q := by
    intro m
    induction m with
    | zero =>
      intro w hh ca cp lp q hw hq c42 c51 cc cn cf
      have kle : nI (k ^ n) ≤ nI w := nI_le (by omega) (by omega)
      refine tX8_findCycles_30 c42 c51 (fun _ => ?_) (fun e => absurd kle e) (fun e => absurd kle e) (fun e => absurd kle e)
      have e1 : cp = nC T (k ^ n) := congrArg (fun z => z.1) cn
      have e3 : q = nQ T (k ^ n) := congrArg (fun z => z.2.2) cn
      rw [← hQ]
      exact ⟨rfl, by rw [c42, e3], ⟨ca, c51, by rw [← e1]; exact cc⟩, cf⟩
    | succ m ih =>
      intro w hh ca cp lp q hw hq c42 c51 cc cn cf
      have cw : (nI w).toNatClampNeg = w := nI_clamp (by omega)
      unfold numb at cn
      refine tX8_findCycles_30 c42 c51 (fun e => absurd e (nI_ge (by omega) (by omega))) (fun _ => vp_in_nI (by omega) (by decide)) (fun _ e => ?_) (fun _ e => ?_)
      · rw [cw, cc w (by omega)] at e
        rw [if_neg e] at cn
        rw [nI_1]
        exact ih (w + 1) hh ca cp lp q (by omega) (by omega) c42 c51 cc cn cf
      · rw [cw, cc w (by omega)] at e
        rw [if_pos e] at cn
        have zq : ¬ nI q = -1 := nI_nm1 (by omega)
        have inn : ∀ f x (h3 : ah) (cb cq : Nat → Int32), x < k ^ n → cs (unB cq) (k ^ n) ≤ f → h3 42 = cM (nI k) (nI n) (nI (k ^ n)) ms mx (nI q) mw ml mf mp mg → h3 51 = aI 20000 cb → (∀ y, y < k ^ n → cb y = cq y) → (∀ y, y < k ^ n → mark T (nI q) f cq x y = mark T (nI q) (k ^ n) cp w y) → Fr [42, 51] h h3 → V G mX8_findCycles (b0 d) 50 [some (.ref 42), some (.int (nI w)), some (.int (nI x))] [] h3 Q := by
          intro f
          induction f with
          | zero =>
            intro x h3 cb cq hx hf d42 d51 dc dm df
            have hne : ¬ cq x = -1 := fun z => by have := un_pos hx z; omega
            have cx : (nI x).toNatClampNeg = x := nI_clamp (by omega)
            have vx : vp_in (nI x) 20000 := vp_in_nI (by omega) (by decide)
            refine tX8_findCycles_50 d42 d51 ((df 47 (by decide)).trans g47) vx (fun _ => ?_) (fun e => absurd e (by rw [cx, dc x hx]; exact hne)) (fun e => absurd e (by rw [cx, dc x hx]; exact hne)) (fun e => absurd e (by rw [cx, dc x hx]; exact hne))
            rw [nI_1, nI_1]
            exact ih (w + 1) _ cb _ _ _ (by omega) (by omega) (up_s _ _ _) ((up_n _ _ (by decide)).trans d51) (fun y hy => (dc y hy).trans (dm y hy)) cn (df.up (by decide))
          | succ f ihf =>
            intro x h3 cb cq hx hf d42 d51 dc dm df
            have cx : (nI x).toNatClampNeg = x := nI_clamp (by omega)
            have vx : vp_in (nI x) 20000 := vp_in_nI (by omega) (by decide)
            refine tX8_findCycles_50 d42 d51 ((df 47 (by decide)).trans g47) vx (fun e => ?_) (fun _ => vx) (fun _ => vx) (fun e => ?_)
            · rw [cx, dc x hx] at e
              rw [nI_1, nI_1]
              refine ih (w + 1) _ cb _ _ _ (by omega) (by omega) (up_s _ _ _) ((up_n _ _ (by decide)).trans d51) (fun y hy => ?_) cn (df.up (by decide))
              rw [dc y hy, ← dm y hy]
              unfold mark
              rw [if_neg e]
            · rw [cx, dc x hx] at e
              rw [cx, htt x hx]
              refine ihf (T x) _ _ (upd cq x (nI q)) (hT.1 x hx) ?_ ((up_n _ _ (by decide)).trans d42) (up_s _ _ _) (upd_ag dc) (fun y hy => ?_) (df.up (by decide))
              · have := un_upd hx e zq
                omega
              · rw [← dm y hy]
                conv => rhs; unfold mark
                rw [if_pos e]
        exact inn (k ^ n) w hh ca cp (by omega) (cs_le _ _) c42 c51 cc (fun _ _ => rfl) cf
  have first : ∀ m w (hh : ah) (ca : Nat → Int32), w + m = k ^ n → hh 42 = cM (nI k) (nI n) (nI (k ^ n)) ms mx 0 mw ml mf mp mg → hh 51 = aI 20000 ca → (∀ y, y < w → ca y = -1) → Fr [42, 51] h hh → V G mX8_findCycles (b0 d) 7 [some (.ref 42), some (.int (nI w))] [] hh Q := by
    intro m
    induction m with
    | zero =>
      intro w hh ca hw c42 c51 cc cf
      have kle : nI (k ^ n) ≤ nI w := nI_le (by omega) (by omega)
      refine tX8_findCycles_7 c42 c51 (fun _ => ?_) (fun e => absurd kle e) (fun e => absurd kle e)
      exact out (k ^ n) 0 hh ca (fun _ => -1) (fun _ => 0) 0 (by omega) (Nat.le_refl _) c42 c51 (fun y hy => cc y (by omega)) rfl cf
    | succ m ih =>
      intro w hh ca hw c42 c51 cc cf
      refine tX8_findCycles_7 c42 c51 (fun e => absurd e (nI_ge (by omega) (by omega))) (fun _ => vp_in_nI (by omega) (by decide)) (fun _ => ?_)
      rw [nI_1, nI_clamp (by omega)]
      refine ih (w + 1) _ _ (by omega) ((up_n _ _ (by decide)).trans c42) (up_s _ _ _) (fun y hy => ?_) (cf.up (by decide))
      by_cases hyw : y = w
      · rw [hyw, pk_us]
      · rw [pk_un hyw]; exact cc y (by omega)
  refine Ct_of (by decide +kernel) (Nat.le_of_ble_eq_true rfl) (tX8_findCycles_0 g42 ?_)
  exact first (k ^ n) 0 _ nn (by omega) (up_s _ _ _) ((up_n _ _ (by decide)).trans g51) (fun y hy => absurd hy (Nat.not_lt_zero y)) (Fr.rf.up (by decide))
end MC
