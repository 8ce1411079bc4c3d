/-! content: the step -/
abbrev cvx (x1 x2 x3 x4 x5 : Int32) : Nat → Nat := cvf x1.toNatClampNeg x2.toNatClampNeg x3.toNatClampNeg x4.toNatClampNeg x5.toNatClampNeg
theorem cvx_e {x1 x2 x3 x4 x5 : Int32} : ∀ v, v < 5 → cvx x1 x2 x3 x4 x5 v = (xv x1 x2 x3 x4 x5 v).toNatClampNeg := fun v hv => by
  match v, hv with
  | 0, _ => rfl
  | 1, _ => rfl
  | 2, _ => rfl
  | 3, _ => rfl
  | 4, _ => rfl
/-- what content answers -/
def cnA (k n : Nat) (x1 x2 x3 x4 x5 V : Int32) : Prop := (okc k n (xv x1 x2 x3 x4 x5) ∧ V = nI (crg k n (cvx x1 x2 x3 x4 x5) (k ^ n))) ∨ (¬ okc k n (xv x1 x2 x3 x4 x5) ∧ V = -2)
theorem okc_c {k n : Nat} {x1 x2 x3 x4 x5 : Int32} (hn : n ≤ 14) (h : okc k n (xv x1 x2 x3 x4 x5)) : ∀ v, v < 5 → xv x1 x2 x3 x4 x5 v = nI (cvx x1 x2 x3 x4 x5 v) ∧ cvx x1 x2 x3 x4 x5 v ≤ 14 := fun v hv => by
  rw [cvx_e v hv]
  refine ⟨(cl_nn (h.1 v hv).1).1, ?_⟩
  have h1 := su_ge (F := fun v => (xv x1 x2 x3 x4 x5 v).toNatClampNeg) 5 hv
  have h2 := h.2
  have h3 : (xv x1 x2 x3 x4 x5 v).toNatClampNeg ≤ su (fun v => (xv x1 x2 x3 x4 x5 v).toNatClampNeg) 5 := h1
  omega
section CS
variable {G : gx} {h : ah} {k n : Nat}
theorem X_content {am0 : Nat → Int32} {f l : Int32} (ok : okW k n) (g2 : h 2 = cX f l) (g3 : h 3 = cW k n) (g5 : h 5 = cK5) (g8 : h 8 = aI 5 am0) (x1 x2 x3 x4 x5 : Int32) : Ct G mX7_content 2 0 0 [.ref 2, .int x1, .int x2, .int x3, .int x4, .int x5] h (fun r h2 => (∃ V, cnA k n x1 x2 x3 x4 x5 V ∧ r = some (.int V)) ∧ (∃ a, h2 8 = aI 5 a) ∧ Fr [8] h h2) := by
  have hk := ok.1
  have hn := ok.2.2.2.1
  refine Ct_of (by decide +kernel) (Nat.le_of_ble_eq_true rfl) (tX7_content_0 g2 ?_)
  refine cX7_content_11 (k := 3) (C_takeAmounts ok g3 g5 g8 x1 x2 x3 x4 x5) g5 ⟨by decide, by decide⟩ (Nat.le_of_ble_eq_true rfl) ⟨Nat.le_refl _, Nat.le_refl _⟩ (fun r h3 e => ?_)
  obtain ⟨hr, ⟨am, d8, ham⟩, df⟩ := e
  have d2 := (df 2 (by decide)).trans g2
  have d5 := (df 5 (by decide)).trans g5
  rcases hr with ⟨ho, rfl⟩ | ⟨ho, rfl⟩
  · refine tX7_content_14 d2 (fun z => absurd z (by decide)) (fun _ => ?_)
    have hc := okc_c hn ho
    refine cX7_content_21 (k := 3) (C_ringsOfAmounts (c := cvx x1 x2 x3 x4 x5) ok ((df 3 (by decide)).trans g3) d5 d8 (fun v hv => by rw [ham v hv]; exact hc v hv)) d5 ⟨by decide, by decide⟩ (Nat.le_of_ble_eq_true rfl) ⟨Nat.le_refl _, Nat.le_refl _⟩ (fun r h4 e => ?_)
    obtain ⟨rfl, e⟩ := e
    rw [e]
    refine tX7_content_24 ⟨⟨_, Or.inl ⟨ho, ?_⟩, rfl⟩, ⟨am, d8⟩, df⟩
    have zz : ∀ v, v < 5 → k ≤ v → cvx x1 x2 x3 x4 x5 v = 0 := fun v hv hkv => by
      rw [cvx_e v hv, (ho.1 v hv).2 hkv]
      rfl
    refine rof_ok ok (fun q => zz 2 (by decide) q) (fun q => zz 3 (by decide) q) (fun q => zz 4 (by decide) q) ?_
    have h2 := ho.2
    have h3 : 0 + x1.toNatClampNeg + x2.toNatClampNeg + x3.toNatClampNeg + x4.toNatClampNeg + x5.toNatClampNeg = n := h2
    omega
  · refine tX7_content_14 d2 (fun _ => ⟨⟨-2, Or.inr ⟨ho, rfl⟩, rfl⟩, ⟨am, d8⟩, df⟩) (fun z => absurd rfl z)
theorem M_content {lf wt0 hd0 : Nat → Int32} {ms mx mc mw ml mf mp mg : Int32} (ok : okW k n) (g42 : h 42 = cM (nI k) (nI n) (nI (k ^ n)) ms mx mc mw ml mf mp mg) (g43 : h 43 = aI 20000 lf) (hlf : ∀ w, w < k ^ n → lf w = nI (lo k n w)) (g44 : h 44 = aI 5 wt0) (g45 : h 45 = aI 5 hd0) {x1 x2 x3 x4 x5 ans : Int32} (hV : cnA k n x1 x2 x3 x4 x5 ans) : Ct G mX8_content 1 0 0 [.ref 42, .int x1, .int x2, .int x3, .int x4, .int x5] h (fun r h2 => r = some (.int ans) ∧ (∃ a, h2 44 = aI 5 a) ∧ (∃ a, h2 45 = aI 5 a) ∧ Fr [44, 45] h h2) := by
  have hk1 := ok.1
  have hk5 := ok.2.1
  have hn := ok.2.2.2.1
  have hN := ok.le (Nat.le_refl n)
  refine Ct_of (by decide +kernel) (Nat.le_of_ble_eq_true rfl) (tX8_content_0 g42 g44 (vp_in_nI (n := 0) (by decide) (by decide)) (vp_in_nI (n := 1) (by decide) (by decide)) (vp_in_nI (n := 2) (by decide) (by decide)) (vp_in_nI (n := 3) (by decide) (by decide)) (vp_in_nI (n := 4) (by decide) (by decide)) ?_)
  rw [bx_uu, bx_uu, bx_uu, bx_uu]
  generalize hA : upd (upd (upd (upd (upd wt0 (0 : Int32).toNatClampNeg x1) (1 : Int32).toNatClampNeg x2) (2 : Int32).toNatClampNeg x3) (3 : Int32).toNatClampNeg x4) (4 : Int32).toNatClampNeg x5 = am
  have ham : ∀ v, v < 5 → am v = xv x1 x2 x3 x4 x5 v := by
    intro v hv
    rw [← hA]
    match v, hv with
    | 0, _ => rfl
    | 1, _ => rfl
    | 2, _ => rfl
    | 3, _ => rfl
    | 4, _ => rfl
  have c42 : va_up h 44 (aI 5 am) 42 = cM (nI k) (nI n) (nI (k ^ n)) ms mx mc mw ml mf mp mg := g42
  have c43 : va_up h 44 (aI 5 am) 43 = aI 20000 lf := g43
  have c45 : va_up h 44 (aI 5 am) 45 = aI 5 hd0 := g45
  have c44 : va_up h 44 (aI 5 am) 44 = aI 5 am := up_s _ _ _
  have cf : Fr [44, 45] h (va_up h 44 (aI 5 am)) := Fr.rf.up (by decide)
  generalize va_up h 44 (aI 5 am) = hh at *
  generalize hQ : (fun (r : Option Value) (h2 : ah) => r = some (.int ans) ∧ (∃ a, h2 44 = aI 5 a) ∧ (∃ a, h2 45 = aI 5 a) ∧ Fr [44, 45] h h2) = Q
  have scan : okc k n (xv x1 x2 x3 x4 x5) → ∀ m t (h3 : ah) (a : Nat → Int32) (y6 : Int64) (x8 : Int32), t + m = k ^ n → h3 45 = aI 5 a → Fr [45] hh h3 → ans = nI (crg k n (cvx x1 x2 x3 x4 x5) (k ^ n)) → V G mX8_content (b0 1) 137 [some (.ref 42), some (.int x1), some (.int x2), some (.int x3), some (.int x4), some (.int x5), some (.long y6), none, some (.int x8), some (.int (nI (crg k n (cvx x1 x2 x3 x4 x5) t))), some (.int (nI t))] [] h3 Q := by
    intro ho m
    have hc := okc_c hn ho
    induction m with
    | zero =>
      intro t h3 a y6 x8 ht d45 df hVe
      have kle : nI (k ^ n) ≤ nI t := nI_le (by omega) (by omega)
      refine tX8_content_137 ((df 42 (by decide)).trans c42) ((df 43 (by decide)).trans c43) (fun _ => ?_) (fun z => absurd kle z) (fun z => absurd kle z) (fun z => absurd kle z)
      rw [← hQ, show t = k ^ n by omega, hVe]
      exact ⟨rfl, ⟨am, (df 44 (by decide)).trans c44⟩, ⟨a, d45⟩, Fr.tr cf df (by decide)⟩
    | succ m ih =>
      intro t h3 a y6 x8 ht d45 df hVe
      have ht2 : t < k ^ n := by omega
      have hlo := lo_lt ht2
      have d42 := (df 42 (by decide)).trans c42
      have e1 : lf (nI t).toNatClampNeg = nI (lo k n t) := by rw [nI_clamp (by omega), hlf t ht2]
      have es : crg k n (cvx x1 x2 x3 x4 x5) (t + 1) = crg k n (cvx x1 x2 x3 x4 x5) t + (decide (lo k n t = t) && pc k n (cvx x1 x2 x3 x4 x5) t).toNat := rfl
      have nx := fun h3 a y6 x8 d45 df => ih (t + 1) h3 a y6 x8 (by omega) d45 df hVe
      rw [es] at nx
      refine tX8_content_137 d42 ((df 43 (by decide)).trans c43) (fun z => absurd z (nI_ge (by omega) (by omega))) (fun _ => vp_in_nI (by omega) (by decide)) (fun _ z => ?_) (fun _ z => ?_)
      · rw [e1, nI_eq (by omega) (by omega)] at z
        rw [decide_eq_false z] at nx
        rw [nI_1, Int32.add_zero]
        exact nx h3 a y6 x8 d45 df
      · rw [e1, nI_eq (by omega) (by omega)] at z
        rw [decide_eq_true z] at nx
        refine cX8_content_163 (k := 40) (M_hasWanted (c := cvx x1 x2 x3 x4 x5) ok d42 ((df 44 (by decide)).trans c44) (fun v hv => by rw [ham v hv]; exact hc v hv) d45 ht2 (dp := 0)) d42 ⟨by decide, by decide⟩ (Nat.le_of_ble_eq_true rfl) ⟨Nat.le_refl _, Nat.le_refl _⟩ (fun r h4 e => ?_)
        obtain ⟨rfl, ⟨a2, e45⟩, ef⟩ := e
        have hf4 := Fr.tr df ef (by decide)
        refine tX8_content_166 (fun z2 => ?_) (fun z2 => ?_)
        · have hp : pc k n (cvx x1 x2 x3 x4 x5) t = false := Bool.eq_false_iff.mpr (fun q => by rw [if_pos q] at z2; exact absurd z2 (by decide))
          rw [hp] at nx
          rw [nI_1, Int32.add_zero]
          exact nx h4 a2 y6 x8 e45 hf4
        · have hp : pc k n (cvx x1 x2 x3 x4 x5) t = true := Classical.byContradiction (fun q => z2 (by rw [if_neg q]))
          rw [hp] at nx
          rw [nI_1, nI_1]
          exact nx h4 a2 y6 x8 e45 hf4
  have key : ∀ m v (b : Bool), v + m = 5 → (b = true ↔ ∀ u, u < v → ¬ xv x1 x2 x3 x4 x5 u < 0 ∧ (k ≤ u → xv x1 x2 x3 x4 x5 u = 0)) → V G mX8_content (b0 1) 46 [some (.ref 42), some (.int x1), some (.int x2), some (.int x3), some (.int x4), some (.int x5), some (.long (sI (xv x1 x2 x3 x4 x5) v)), none, some (.int (if b = true then 1 else 0)), some (.int (nI v))] [] hh Q := by
    intro m
    induction m with
    | zero =>
      intro v b hv hb
      have hv5 : v = 5 := by omega
      rw [hv5] at hb ⊢
      have kle : (5 : Int32) ≤ nI 5 := by decide
      have no : ¬ okc k n (xv x1 x2 x3 x4 x5) → Q (some (.int (-2))) hh := fun hno => by
        rw [← hQ]
        rcases hV with ⟨q, -⟩ | ⟨-, q⟩
        · exact absurd q hno
        · rw [q]; exact ⟨rfl, ⟨am, c44⟩, ⟨hd0, c45⟩, cf⟩
      refine tX8_content_46 c42 c44 (fun _ z => ?_) (fun _ z z2 => ?_) (fun _ z z2 => ?_) (fun z => absurd kle z) (fun z => absurd kle z) (fun z => absurd kle z) (fun z => absurd kle z) (fun z => absurd kle z) (fun z => absurd kle z) (fun z => absurd kle z) (fun z => absurd kle z) (fun z => absurd kle z) (fun z => absurd kle z) (fun z => absurd kle z) (fun z => absurd kle z)
      · refine no (fun q => ?_)
        rw [if_pos (hb.mpr q.1)] at z
        exact absurd z (by decide)
      · have hb1 := hb.mp (Classical.byContradiction (fun e => z (by rw [if_neg e])))
        obtain ⟨s1, s2⟩ := sI_toInt (x := xv x1 x2 x3 x4 x5) 5 (Nat.le_refl _) (fun u hu => (hb1 u hu).1)
        have e2 := (lgc_eq _ _).mp z2
        rw [e2, Int32.toInt_toInt64, nI_toInt (by omega)] at s1
        have ho : okc k n (xv x1 x2 x3 x4 x5) := ⟨hb1, by omega⟩
        rcases hV with ⟨-, q⟩ | ⟨q, -⟩
        · exact scan ho (k ^ n) 0 hh hd0 _ _ (by omega) c45 Fr.rf q
        · exact absurd ho q
      · refine no (fun q => z2 ((lgc_eq _ _).mpr ?_))
        obtain ⟨s1, s2⟩ := sI_toInt (x := xv x1 x2 x3 x4 x5) 5 (Nat.le_refl _) (fun u hu => (q.1 u hu).1)
        apply Int64.toInt_inj.mp
        rw [s1, q.2, Int32.toInt_toInt64, nI_toInt (by omega)]
    | succ m ih =>
      intro v b hv hb
      have hv5 : v < 5 := by omega
      have e1 : am (nI v).toNatClampNeg = xv x1 x2 x3 x4 x5 v := by rw [nI_clamp (by omega)]; exact ham v hv5
      have inv : vp_in (nI v) 5 := vp_in_nI (by omega) (by decide)
      have ng : ∀ {P : Prop}, (5 : Int32) ≤ nI v → P := fun z => absurd z (nI_ge (a := v) (b := 5) (by omega) (by omega))
      have nf := fun z => ih (v + 1) false (by omega) z
      have nt := fun z => ih (v + 1) true (by omega) z
      have hb1 : ¬ (if b = true then (1 : Int32) else 0) = 0 → b = true := fun z => Classical.byContradiction (fun e => z (by rw [if_neg e]))
      refine tX8_content_46 c42 c44 (fun z => ng z) (fun z => ng z) (fun z => ng z) (fun _ _ => inv) (fun _ z => ?_) (fun _ _ => inv) (fun _ _ _ => inv) (fun _ z z1 => ?_) (fun _ _ _ _ => inv) (fun _ z z1 z2 => ?_) (fun _ _ _ _ => inv) (fun _ _ _ _ _ => inv) (fun _ z z1 z2 z3 => ?_) (fun _ _ _ _ _ => inv) (fun _ z z1 z2 z3 => ?_)
      · rw [e1, nI_1]
        refine nf ⟨fun q => Bool.noConfusion q, fun q => ?_⟩
        rw [if_pos (hb.mpr (fun u hu => q u (by omega)))] at z
        exact absurd z (by decide)
      · rw [e1] at z1 ⊢
        rw [nI_1]
        exact nf ⟨fun q => Bool.noConfusion q, fun q => absurd z1 (q v (by omega)).1⟩
      · rw [e1] at z1 ⊢
        rw [nI_1]
        refine nt ⟨fun _ u hu => ?_, fun _ => rfl⟩
        by_cases huv : u = v
        · rw [huv]
          exact ⟨z1, fun q => absurd z2 (nI_nlt q (by omega))⟩
        · exact hb.mp (hb1 z) u (by omega)
      · rw [e1] at z3 ⊢
        rw [nI_1]
        exact nf ⟨fun q => Bool.noConfusion q, fun q => absurd ((q v (by omega)).2 (Nat.le_of_not_lt (fun w => z2 (nI_lt w (by omega))))) z3⟩
      · rw [e1] at z1 z3 ⊢
        rw [nI_1]
        refine nt ⟨fun _ u hu => ?_, fun _ => rfl⟩
        by_cases huv : u = v
        · rw [huv]
          exact ⟨z1, fun _ => z3⟩
        · exact hb.mp (hb1 z) u (by omega)
  exact key 5 0 true (by omega) ⟨fun _ u hu => by omega, fun _ => rfl⟩
theorem Jm.kc {s E P L : Nat} {F T : Nat → Nat} {kd f l mc : Int32} {h2 : ah} (hJ : Jm k n s F T E kd f l P L mc h) (hf : Fr [8, 44, 45] h h2) (h8 : ∃ a, h2 8 = aI 5 a) (h44 : ∃ a, h2 44 = aI 5 a) (h45 : ∃ a, h2 45 = aI 5 a) : Jm k n s F T E kd f l P L mc h2 := by
  obtain ⟨a1, a2, a3, a4, a5, a6, a7, a8, ⟨b1, ⟨b2, c1⟩, ⟨b3, c2⟩, -⟩⟩ := hJ
  exact ⟨a1, (hf 2 (by decide)).trans a2, (hf 42 (by decide)).trans a3, a4.fr hf (by decide), a5.fr hf (by decide), a6.fr hf (by decide), a7.fr hf (by decide), a8.fr hf (by decide), (hf 5 (by decide)).trans b1, ⟨b2, (hf 6 (by decide)).trans c1⟩, ⟨b3, (hf 7 (by decide)).trans c2⟩, h8, h44, h45⟩
theorem st_content (hJ : J h) (x1 x2 x3 x4 x5 : Int32) : Sp G J mX7_content mX8_content [.int x1, .int x2, .int x3, .int x4, .int x5] h := by
  obtain ⟨k, n, s, F, T, E, kd, f, l, P, L, mc, hJm⟩ := hJ
  have hJ2 := hJm
  obtain ⟨⟨ok, -⟩, g2, g42, ⟨⟨s1, s2, c, s3, l0, cn, lw, pw, ff, g3, g4, hp, -⟩, -, ⟨lf, g43, hlf⟩, -⟩, -, -, -, -, ⟨g5, -, -, ⟨o, g8⟩, ⟨wt, g44⟩, ⟨hd, g45⟩⟩⟩ := hJm
  refine Sp_of g2 (dx := 2) (dm := 1) (by decide) (by decide) (X_content ok g2 g3 g5 g8 x1 x2 x3 x4 x5) (fun r h1 e => ?_)
  obtain ⟨⟨v, hv, rfl⟩, q8, qf⟩ := e
  have d42 := (qf 42 (by decide)).trans g42
  refine ⟨_, _, rfl, d42, Ct.mono (M_content ok d42 ((qf 43 (by decide)).trans g43) hlf ((qf 44 (by decide)).trans g44) ((qf 45 (by decide)).trans g45) hv) (fun r2 h2 q => ?_)⟩
  obtain ⟨q1, q44, q45, q2⟩ := q
  obtain ⟨a8, q8⟩ := q8
  exact ⟨q1, k, n, s, F, T, E, kd, f, l, P, L, mc, hJ2.kc (Fr.tr (qf.mono (by decide)) q2 (by decide)) ⟨a8, (q2 8 (by decide)).trans q8⟩ q44 q45⟩
end CS
