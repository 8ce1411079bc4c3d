/-! join: the class -/
section JC
variable {G : gx} {k n s : Nat} {F T T0 : Nat → Nat} {f l : Int32}
/-- the labels of the cycles' numbers tell the cycles of T -/
def lab (N : Nat) (T0 T : Nat → Nat) (g : Nat → Int32) : Prop := ∀ x y, x < N → y < N → (g (nC T0 N x).toNatClampNeg = g (nC T0 N y).toNatClampNeg ↔ rel T x y)
theorem C_joinAt {h : ah} {s2 : Int32} {E a b : Nat} {l0 ca g o1 o2 : Nat → Int32} (ok : okW k n) (hT0 : pm (k ^ n) T0) (hT : pm (k ^ n) T) (hQ : nQ T0 (k ^ n) ≤ 401) (hE : E < 400) (g9 : h 9 = cR (nI s) (nI E) 1 s2 (nI (nQ T0 (k ^ n))) 1) (g11 : h 11 = aI 400 o1) (g12 : h 12 = aI 400 o2) (g13 : h 13 = aI 20000 l0) (hl : ∀ w, w < k ^ n → l0 w = nI (T w)) (g14 : h 14 = aI 20000 ca) (hc : ∀ w, w < k ^ n → ca w = nC T0 (k ^ n) w) (g16 : h 16 = aI 401 g) (hg : lab (k ^ n) T0 T g) (ha : a < k ^ n) (hb : b < k ^ n) : Ct G mX2_joinAt 1 0 0 [.ref 9, .int (nI a), .int (nI b)] h (fun r h2 => if jB T a b = true then r = some (.int 0) ∧ h2 = h else r = some (.int 1) ∧ h2 9 = cR (nI s) (nI (E + 1)) 1 0 (nI (nQ T0 (k ^ n))) 1 ∧ h2 11 = aI 400 (upd o1 E (nI a)) ∧ h2 12 = aI 400 (upd o2 E (nI b)) ∧ (∃ l2, h2 13 = aI 20000 l2 ∧ ∀ w, w < k ^ n → l2 w = nI (sw T a b w)) ∧ (∃ g2, h2 16 = aI 401 g2 ∧ lab (k ^ n) T0 (sw T a b) g2) ∧ Fr [9, 11, 12, 13, 16] h h2) := by
  have hN := ok.le (Nat.le_refl n)
  have nx : ∀ x, x < k ^ n → ∃ j, j < nQ T0 (k ^ n) ∧ nC T0 (k ^ n) x = nI j := fun x hx => nC_val hT0 hN hx
  obtain ⟨ja, ja1, ja2⟩ := nx a ha
  obtain ⟨jb, jb1, jb2⟩ := nx b hb
  have ca1 : (nI a).toNatClampNeg = a := nI_clamp (by omega)
  have cb1 : (nI b).toNatClampNeg = b := nI_clamp (by omega)
  have va : ca (nI a).toNatClampNeg = nI ja := by rw [ca1, hc a ha, ja2]
  have vb : ca (nI b).toNatClampNeg = nI jb := by rw [cb1, hc b hb, jb2]
  have cja : (nI ja).toNatClampNeg = ja := nI_clamp (by omega)
  have cjb : (nI jb).toNatClampNeg = jb := nI_clamp (by omega)
  have hab := hg a b ha hb
  rw [ja2, jb2, cja, cjb] at hab
  refine Ct_of (by decide +kernel) (Nat.le_of_ble_eq_true rfl) (tX2_joinAt_0 g9 g14 g16 (vp_in_nI (by omega) (by decide)) (by rw [va]; exact vp_in_nI (by omega) (by decide)) (vp_in_nI (by omega) (by decide)) (by rw [vb]; exact vp_in_nI (by omega) (by decide)) (fun z => ?_) (fun z => ?_))
  · rw [va, vb, cja, cjb] at z
    have hjB : ¬ jB T a b = true := fun q => z (hab.mpr (jB_iff.mpr q))
    simp only [if_neg hjB]
    rw [va, vb, cja, cjb]
    generalize hQQ : (fun (r : Option Value) (h2 : ah) => r = some (.int 1) ∧ h2 9 = cR (nI s) (nI (E + 1)) 1 0 (nI (nQ T0 (k ^ n))) 1 ∧ h2 11 = aI 400 (upd o1 E (nI a)) ∧ h2 12 = aI 400 (upd o2 E (nI b)) ∧ (∃ l2, h2 13 = aI 20000 l2 ∧ ∀ w, w < k ^ n → l2 w = nI (sw T a b w)) ∧ (∃ g2, h2 16 = aI 401 g2 ∧ lab (k ^ n) T0 (sw T a b) g2) ∧ Fr [9, 11, 12, 13, 16] h h2) = Q
    have key : ∀ q j (hh : ah) (g1 : Nat → Int32), j + q = nQ T0 (k ^ n) → hh 16 = aI 401 g1 → (∀ i, i < j → g1 i = if g i = g jb then g ja else g i) → (∀ i, j ≤ i → g1 i = g i) → Fr [16] h hh → V G mX2_joinAt (b0 1) 36 [some (.ref 9), some (.int (nI a)), some (.int (nI b)), some (.int (g ja)), some (.int (g jb)), some (.int (nI j))] [] hh Q := by
      intro q
      induction q with
      | zero =>
        intro j hh g1 hj k16 k1 k2 kf
        have k9 := (kf 9 (by decide)).trans g9
        refine tX2_joinAt_36 k9 k16 (fun _ => ?_) (fun e => absurd (nI_le (by omega) (by omega)) e) (fun e => absurd (nI_le (by omega) (by omega)) e) (fun e => absurd (nI_le (by omega) (by omega)) e) (fun e => absurd (nI_le (by omega) (by omega)) e)
        refine cX2_joinAt_74 (k := 7) (C_swapLeads (x := a) (y := b) (by omega) (by omega) k9 ((kf 13 (by decide)).trans g13) (d := 0)) k9 ⟨by decide, by decide⟩ (Nat.le_of_ble_eq_true rfl) ⟨Nat.le_refl _, Nat.le_refl _⟩ (fun r h3 e => ?_)
        obtain ⟨rfl, e⟩ := e; replace e := e.symm; subst e
        refine tX2_joinAt_77 ?_
        refine cX2_joinAt_80 (k := 7) (C_noteExchange (E := E) hE (up_s _ _ _) ((up_n _ _ (by decide)).trans ((up_n _ _ (by decide)).trans ((kf 11 (by decide)).trans g11))) ((up_n _ _ (by decide)).trans ((up_n _ _ (by decide)).trans ((kf 12 (by decide)).trans g12))) (d := 0)) (up_s _ _ _) ⟨by decide, by decide⟩ (Nat.le_of_ble_eq_true rfl) ⟨Nat.le_refl _, Nat.le_refl _⟩ (fun r h4 e => ?_)
        obtain ⟨rfl, e⟩ := e; replace e := e.symm; subst e
        refine tX2_joinAt_83 ?_
        rw [← hQQ]
        refine ⟨rfl, up_s _ _ _, rfl, rfl, ⟨_, rfl, sw_ld ha hb hl⟩, ⟨g1, k16, ?_⟩, ?_⟩
        · refine relab hT (fun x => g (nC T0 (k ^ n) x).toNatClampNeg) (fun x => g1 (nC T0 (k ^ n) x).toNatClampNeg) ha hb (p := g ja) (q := g jb) hg (Or.inl ⟨?_, ?_⟩) z (fun x hx e => ?_) (fun x hx e => ?_)
          · show g (nC T0 (k ^ n) a).toNatClampNeg = g ja
            rw [ja2, cja]
          · show g (nC T0 (k ^ n) b).toNatClampNeg = g jb
            rw [jb2, cjb]
          · obtain ⟨i, i1, i2⟩ := nx x hx
            have e2 : g (nC T0 (k ^ n) x).toNatClampNeg = g jb := e
            show g1 (nC T0 (k ^ n) x).toNatClampNeg = g ja
            rw [i2, nI_clamp (by omega)] at e2 ⊢
            rw [k1 i (by omega), if_pos e2]
          · obtain ⟨i, i1, i2⟩ := nx x hx
            have e2 : ¬ g (nC T0 (k ^ n) x).toNatClampNeg = g jb := e
            show g1 (nC T0 (k ^ n) x).toNatClampNeg = g (nC T0 (k ^ n) x).toNatClampNeg
            rw [i2, nI_clamp (by omega)] at e2 ⊢
            rw [k1 i (by omega), if_neg e2]
        · refine Fr.up (Fr.up (Fr.up (Fr.up (Fr.up (kf.mono ?_) ?_) ?_) ?_) ?_) ?_ <;> decide
      | succ q ih =>
        intro j hh g1 hj k16 k1 k2 kf
        have k9 := (kf 9 (by decide)).trans g9
        have cj : (nI j).toNatClampNeg = j := nI_clamp (by omega)
        refine tX2_joinAt_36 k9 k16 (fun e => absurd e (nI_ge (by omega) (by omega))) (fun _ => vp_in_nI (by omega) (by decide)) (fun _ e => ?_) (fun _ _ => vp_in_nI (by omega) (by decide)) (fun _ e => ?_)
        · rw [cj, k2 j (Nat.le_refl _)] at e
          rw [nI_1]
          refine ih (j + 1) hh g1 (by omega) k16 (fun i hi => ?_) (fun i hi => k2 i (by omega)) kf
          by_cases hij : i = j
          · rw [hij, if_neg e]; exact k2 j (Nat.le_refl _)
          · exact k1 i (by omega)
        · rw [cj, k2 j (Nat.le_refl _)] at e
          rw [nI_1, cj]
          refine ih (j + 1) _ _ (by omega) (up_s _ _ _) (fun i hi => ?_) (fun i hi => ?_) (kf.up (by decide))
          · by_cases hij : i = j
            · rw [hij, pk_us, if_pos e]
            · rw [pk_un hij]; exact k1 i (by omega)
          · rw [pk_un (by omega)]; exact k2 i (by omega)
    exact key (nQ T0 (k ^ n)) 0 h g (by omega) g16 (fun i hi => absurd hi (Nat.not_lt_zero i)) (fun _ _ => rfl) Fr.rf
  · rw [va, vb, cja, cjb] at z
    have hjB : jB T a b = true := jB_iff.mp (hab.mp z)
    rw [if_pos hjB]
    exact ⟨rfl, rfl⟩
theorem C_joinCycles {h : ah} {E : Nat} {o1 o2 g0 : Nat → Int32} (ok : okW k n) (hF : okF k F) (hs : s < k) (hT : pm (k ^ n) T) (ht : okT k n T) (hg : RG k n s F T (nI E) h) (hE : E ≤ 400) (g11 : h 11 = aI 400 o1) (g12 : h 12 = aI 400 o2) (g16 : h 16 = aI 401 g0) : Ct G mX2_joinCycles 3 0 0 [.ref 9] h (fun r h2 => if 400 < E + nQ T (k ^ n) - 1 then r = some (.int (-4)) ∧ RG k n s F T (nI E) h2 ∧ Fr [9, 13, 14, 15] h h2 else ∃ J, J = jn (k ^ (n - 1)) (k ^ n - k ^ (n - 1)) 0 T E o1 o2 ∧ r = some (.int (nI (J.2.1 - E))) ∧ RG k n s F J.1 (nI J.2.1) h2 ∧ h2 11 = aI 400 J.2.2.1 ∧ h2 12 = aI 400 J.2.2.2 ∧ (∃ g, h2 16 = aI 401 g) ∧ Fr [9, 11, 12, 13, 14, 15, 16] h h2) := by
  have hN := ok.le (Nat.le_refl n)
  have hhi := ok.le (i := n - 1) (by omega)
  have hle : k ^ (n - 1) ≤ k ^ n := Nat.pow_le_pow_right ok.pos (by omega)
  have hQ1 := nQ_pos hT hN (ok.pp n)
  have hQ2 := nQ_le hT hN
  have hg2 := hg
  obtain ⟨s1, s2, c, s3, l0, cn, lw, pw, ff, g3, g4, hp, g9, g10, hff, -⟩ := hg
  refine Ct_of (by decide +kernel) (Nat.le_of_ble_eq_true rfl) (tX2_joinCycles_0 ?_)
  refine cX2_joinCycles_1 (k := 7) (C_numberCycles ok hF hs hT hg2) g9 ⟨by decide, by decide⟩ (Nat.le_of_ble_eq_true rfl) ⟨Nat.le_refl _, Nat.le_refl _⟩ (fun r h1 e => ?_)
  obtain ⟨rfl, hr, hf⟩ := e
  have hr2 := hr
  obtain ⟨k9, ⟨l1, k13, kl⟩, ⟨c1, k14, kc⟩, ⟨w1, k15, kw⟩⟩ := hr
  have eq1 : nI (nQ T (k ^ n)) - (1 : Int32) = nI (nQ T (k ^ n) - 1) := pk_sub hQ1
  have eq2 : nI E + (nI (nQ T (k ^ n)) - (1 : Int32)) = nI (E + (nQ T (k ^ n) - 1)) := by rw [eq1, nI_add]
  refine tX2_joinCycles_4 k9 (fun z => ?_) (fun z => ?_)
  · replace z := (nI_leI (a := E + (nQ T (k ^ n) - 1)) (b := 400) (by omega) (by omega)).mp (by rw [eq2] at z; exact z)
    have hfull : ¬ 400 < E + nQ T (k ^ n) - 1 := by omega
    simp only [if_neg hfull]
    rw [eq1]
    generalize hJ : jn (k ^ (n - 1)) (k ^ n - k ^ (n - 1)) 0 T E o1 o2 = J
    have hend := jn_end (E := E) (o1 := o1) (o2 := o2) ok hT ht
    rw [hJ] at hend
    generalize hQQ : (fun (r : Option Value) (h2 : ah) => ∃ J2, J2 = J ∧ r = some (.int (nI (J2.2.1 - E))) ∧ RG k n s F J2.1 (nI J2.2.1) h2 ∧ h2 11 = aI 400 J2.2.2.1 ∧ h2 12 = aI 400 J2.2.2.2 ∧ (∃ g, h2 16 = aI 401 g) ∧ Fr [9, 11, 12, 13, 14, 15, 16] h h2) = Q
    have out : ∀ m w (hh : ah) (Tw : Nat → Nat) (Ew : Nat) (p1 p2 lw0 gw : Nat → Int32) (s2 : Int32), w + m = k ^ n - k ^ (n - 1) → pm (k ^ n) Tw → E ≤ Ew → Ew + nQ Tw (k ^ n) = E + nQ T (k ^ n) → jn (k ^ (n - 1)) m w Tw Ew p1 p2 = J → hh 9 = cR (nI s) (nI Ew) 1 s2 (nI (nQ T (k ^ n))) 1 → (s2 = 0 ∨ s2 = 1 ∧ Tw = T) → hh 11 = aI 400 p1 → hh 12 = aI 400 p2 → hh 13 = aI 20000 lw0 → (∀ x, x < k ^ n → lw0 x = nI (Tw x)) → hh 16 = aI 401 gw → lab (k ^ n) T Tw gw → Fr [9, 11, 12, 13, 16] h1 hh → V G mX2_joinCycles (3, 0, 0, 0 + 0, 0 + 0) 53 [some (.ref 9), some (.int (nI (nQ T (k ^ n) - 1))), some (.int (nI (Ew - E))), some (.int (nI w))] [] hh Q := by
      have fin : ∀ (hh : ah) (Tw : Nat → Nat) (Ew : Nat) (p1 p2 lw0 gw : Nat → Int32) (s2 : Int32), (Tw, Ew, p1, p2) = J → pm (k ^ n) Tw → E ≤ Ew → Ew + nQ Tw (k ^ n) = E + nQ T (k ^ n) → hh 9 = cR (nI s) (nI Ew) 1 s2 (nI (nQ T (k ^ n))) 1 → (s2 = 0 ∨ s2 = 1 ∧ Tw = T) → hh 11 = aI 400 p1 → hh 12 = aI 400 p2 → hh 13 = aI 20000 lw0 → (∀ x, x < k ^ n → lw0 x = nI (Tw x)) → hh 16 = aI 401 gw → Fr [9, 11, 12, 13, 16] h1 hh → Q (some (.int (nI (Ew - E)))) (va_up hh 9 (cR (nI s) (nI Ew) 1 s2 (nI (nQ T (k ^ n)) - nI (Ew - E)) 1)) := by
        intro hh Tw Ew p1 p2 lw0 gw s2 hJ2 hpm hEw hsum c9 cs2 c11 c12 c13 cl c16 cf
        have hq1 : nQ Tw (k ^ n) = 1 := by
          have := hend.1
          rw [← hJ2] at this
          exact this
        have cc : nI (nQ T (k ^ n)) - nI (Ew - E) = nI (nQ Tw (k ^ n)) := by
          rw [pk_sub (by omega)]
          congr 1
          omega
        rw [cc, ← hQQ]
        refine ⟨J, rfl, ?_⟩
        rw [← hJ2]
        refine ⟨rfl, ⟨1, s2, _, 1, lw0, c1, w1, pw, ff, ?_, ?_, hp, up_s _ _ _, ?_, hff, ?_, Or.inr ⟨rfl, cl⟩, ?_, ?_, ?_, Or.inr ⟨rfl, rfl, rfl⟩⟩, ?_, ?_, ⟨gw, ?_⟩, ?_⟩
        · exact (up_n _ _ (by decide)).trans ((cf 3 (by decide)).trans ((hf 3 (by decide)).trans g3))
        · exact (up_n _ _ (by decide)).trans ((cf 4 (by decide)).trans ((hf 4 (by decide)).trans g4))
        · exact (up_n _ _ (by decide)).trans ((cf 10 (by decide)).trans ((hf 10 (by decide)).trans g10))
        · exact (up_n _ _ (by decide)).trans c13
        · exact (up_n _ _ (by decide)).trans ((cf 14 (by decide)).trans k14)
        · exact (up_n _ _ (by decide)).trans ((cf 15 (by decide)).trans k15)
        · rcases cs2 with q | ⟨q, rfl⟩
          · exact Or.inl q
          · exact Or.inr ⟨q, rfl, rfl, kc, kw⟩
        · exact (up_n _ _ (by decide)).trans c11
        · exact (up_n _ _ (by decide)).trans c12
        · exact (up_n _ _ (by decide)).trans c16
        · exact Fr.up (Fr.tr (hf.mono (by decide)) cf (by decide)) (by decide)
      intro m
      induction m with
      | zero =>
        intro w hh Tw Ew p1 p2 lw0 gw s2 hw hpm hEw hsum hj c9 cs2 c11 c12 c13 cl c16 cg cf
        have kle : nI (k ^ n) - nI (k ^ (n - 1)) ≤ nI w := by rw [pk_sub hle]; exact nI_le (by omega) (by omega)
        exact tX2_joinCycles_53 c9 ((cf 3 (by decide)).trans ((hf 3 (by decide)).trans g3)) (fun _ => fin hh Tw Ew p1 p2 lw0 gw s2 hj hpm hEw hsum c9 cs2 c11 c12 c13 cl c16 cf) (fun z => absurd kle z) (fun z => absurd kle z)
      | succ m ih =>
        intro w hh Tw Ew p1 p2 lw0 gw s2 hw hpm hEw hsum hj c9 cs2 c11 c12 c13 cl c16 cg cf
        have nle : ¬ nI (k ^ n) - nI (k ^ (n - 1)) ≤ nI w := by rw [pk_sub hle]; exact nI_ge (by omega) (by omega)
        have hqp := nQ_pos hpm hN (ok.pp n)
        refine tX2_joinCycles_53 c9 ((cf 3 (by decide)).trans ((hf 3 (by decide)).trans g3)) (fun z => absurd z nle) (fun _ z2 => ?_) (fun _ z2 => ?_)
        · rw [nI_leI (by omega) (by omega)] at z2
          have hq1 : nQ Tw (k ^ n) = 1 := by omega
          rw [jn_one hN (ok.pp n) _ _ _ _ _ _ hpm hq1 (by omega)] at hj
          exact fin hh Tw Ew p1 p2 lw0 gw s2 hj hpm hEw hsum c9 cs2 c11 c12 c13 cl c16 cf
        · rw [nI_leI (by omega) (by omega)] at z2
          rw [nI_add]
          refine cX2_joinCycles_88 (k := 7) (C_joinAt (a := w) (b := w + k ^ (n - 1)) ok hT hpm (by omega) (by omega) c9 c11 c12 c13 cl ((cf 14 (by decide)).trans k14) kc c16 cg (by omega) (by omega)) c9 ⟨by decide, by decide⟩ (Nat.le_of_ble_eq_true rfl) ⟨Nat.le_refl _, Nat.le_refl _⟩ (fun r h4 e => ?_)
          unfold jn at hj
          by_cases hb : jB Tw w (w + k ^ (n - 1)) = true
          · rw [if_pos hb] at e hj
            obtain ⟨rfl, e⟩ := e; replace e := e.symm; subst e
            refine tX2_joinCycles_91 (fun _ => ?_) (fun z3 => absurd rfl z3)
            rw [nI_1]
            exact ih (w + 1) hh Tw Ew p1 p2 lw0 gw s2 (by omega) hpm hEw hsum hj c9 cs2 c11 c12 c13 cl c16 cg cf
          · rw [if_neg hb] at e hj
            obtain ⟨rfl, d9, d11, d12, ⟨l2, d13, dl⟩, ⟨g2, d16, dg⟩, df⟩ := e
            refine tX2_joinCycles_91 (fun z3 => absurd z3 (by decide)) (fun _ => ?_)
            rw [nI_1, nI_1, show Ew - E + 1 = Ew + 1 - E by omega]
            have hd : ¬ rel Tw w (w + k ^ (n - 1)) := fun q => hb (jB_iff.mp q)
            have hpm2 := sw_pm hpm (a := w) (b := w + k ^ (n - 1)) (by omega) (by omega)
            have hsum2 : Ew + 1 + nQ (sw Tw w (w + k ^ (n - 1))) (k ^ n) = E + nQ T (k ^ n) := by
              have := cnt_merge hpm (a := w) (b := w + k ^ (n - 1)) (by omega) (by omega) hd
              rw [← nQ_cs hpm hN, ← nQ_cs hpm2 hN] at this
              omega
            exact ih (w + 1) h4 (sw Tw w (w + k ^ (n - 1))) (Ew + 1) _ _ l2 g2 0 (by omega) hpm2 (by omega) hsum2 hj d9 (Or.inl rfl) d11 d12 d13 dl d16 dg (Fr.tr cf df (by decide))
    have first : ∀ m j (hh : ah) (g1 : Nat → Int32), j + m = nQ T (k ^ n) → hh 16 = aI 401 g1 → (∀ i, i < j → g1 i = nI i) → Fr [16] h1 hh → V G mX2_joinCycles (3, 0, 0, 0 + 0, 0 + 0) 28 [some (.ref 9), some (.int (nI (nQ T (k ^ n) - 1))), some (.int (nI j))] [] hh Q := by
      intro m
      induction m with
      | zero =>
        intro j hh g1 hj c16 cg cf
        have c9 := (cf 9 (by decide)).trans k9
        refine tX2_joinCycles_28 c9 c16 (fun _ => ?_) (fun z => absurd (nI_le (by omega) (by omega)) z) (fun z => absurd (nI_le (by omega) (by omega)) z)
        have := out (k ^ n - k ^ (n - 1)) 0 hh T E o1 o2 l1 g1 1 (by omega) hT (Nat.le_refl _) rfl hJ c9 (Or.inr ⟨rfl, rfl⟩) ((cf 11 (by decide)).trans ((hf 11 (by decide)).trans g11)) ((cf 12 (by decide)).trans ((hf 12 (by decide)).trans g12)) ((cf 13 (by decide)).trans k13) kl c16 (fun x y hx hy => ?_) (cf.mono (by decide))
        · rw [Nat.sub_self] at this
          exact this
        · obtain ⟨i, i1, i2⟩ := nC_val hT hN hx
          obtain ⟨j2, j3, j4⟩ := nC_val hT hN hy
          rw [← nC_rel hT hN hx hy, i2, j4, nI_clamp (by omega), nI_clamp (by omega), cg i (by omega), cg j2 (by omega)]
      | succ m ih =>
        intro j hh g1 hj c16 cg cf
        have c9 := (cf 9 (by decide)).trans k9
        refine tX2_joinCycles_28 c9 c16 (fun z => absurd z (nI_ge (by omega) (by omega))) (fun _ => vp_in_nI (by omega) (by decide)) (fun _ => ?_)
        rw [nI_1, nI_clamp (by omega)]
        refine ih (j + 1) _ _ (by omega) (up_s _ _ _) (fun i hi => ?_) (cf.up (by decide))
        by_cases hij : i = j
        · rw [hij, pk_us]
        · rw [pk_un hij]; exact cg i (by omega)
    exact first (nQ T (k ^ n)) 0 h1 g0 (by omega) ((hf 16 (by decide)).trans g16) (fun i hi => absurd hi (Nat.not_lt_zero i)) Fr.rf
  · have z2 : ¬ E + (nQ T (k ^ n) - 1) ≤ 400 := fun q => z (by rw [eq2]; exact nI_le (b := 400) q (by decide))
    have hfull : 400 < E + nQ T (k ^ n) - 1 := by omega
    rw [if_pos hfull]
    exact ⟨rfl, hr2.rg hg2 hf, hf⟩
theorem X_join {h : ah} {E : Nat} {o1 o2 g0 : Nat → Int32} (ok : okW k n) (hF : okF k F) (hs : s < k) (hT : rt k (F 0) = true → pm (k ^ n) T) (ht : okT k n T) (g2 : h 2 = cX f l) (hg : RG k n s F T (nI E) h) (hE : E ≤ 400) (g11 : h 11 = aI 400 o1) (g12 : h 12 = aI 400 o2) (g16 : h 16 = aI 401 g0) : Ct G mX7_join 4 0 0 [.ref 2] h (fun r h2 => if rt k (F 0) = false then r = some (.int (-3)) ∧ h2 = h else if 400 < E + nQ T (k ^ n) - 1 then r = some (.int (-4)) ∧ RG k n s F T (nI E) h2 ∧ Fr [9, 13, 14, 15] h h2 else ∃ J, J = jn (k ^ (n - 1)) (k ^ n - k ^ (n - 1)) 0 T E o1 o2 ∧ r = some (.int (nI (J.2.1 - E))) ∧ RG k n s F J.1 (nI J.2.1) h2 ∧ h2 11 = aI 400 J.2.2.1 ∧ h2 12 = aI 400 J.2.2.2 ∧ (∃ g, h2 16 = aI 401 g) ∧ Fr [9, 11, 12, 13, 14, 15, 16] h h2) := by
  obtain ⟨s1, s2, c, s3, g9⟩ := hg.g9
  refine Ct_of (by decide +kernel) (Nat.le_of_ble_eq_true rfl) (tX7_join_0 g2 ?_)
  refine cX7_join_4 (k := 7) (C_right ok hF hg (d := 0)) g9 ⟨by decide, by decide⟩ (Nat.le_of_ble_eq_true rfl) ⟨Nat.le_refl _, Nat.le_refl _⟩ (fun r h2 e => ?_)
  obtain ⟨rfl, e⟩ := e; replace e := e.symm; subst e
  refine tX7_join_7 g2 (fun z => ?_) (fun z => ?_)
  · rw [ri_0] at z
    rw [if_pos z]
    exact ⟨rfl, rfl⟩
  · rw [ri_0] at z
    have hr : rt k (F 0) = true := by cases hb2 : rt k (F 0) <;> simp_all
    simp only [if_neg z]
    refine cX7_join_14 (k := 7) (C_joinCycles ok hF hs (hT hr) ht hg hE g11 g12 g16) g9 ⟨by decide, by decide⟩ (Nat.le_of_ble_eq_true rfl) ⟨Nat.le_refl _, Nat.le_refl _⟩ (fun r h3 e => ?_)
    by_cases hfull : 400 < E + nQ T (k ^ n) - 1
    · rw [if_pos hfull] at e
      obtain ⟨rfl, e⟩ := e
      refine tX7_join_17 ?_
      rw [if_pos hfull]
      exact ⟨rfl, e⟩
    · rw [if_neg hfull] at e
      obtain ⟨J, hJ, rfl, e⟩ := e
      refine tX7_join_17 ?_
      rw [if_neg hfull]
      exact ⟨J, hJ, rfl, e⟩
end JC
