/-! join: the reference -/
theorem ri_1 {R : Bool} (z : ¬ (if R = true then (1 : Int32) else 0) = 0) : R = true := by
  cases R with
  | true => rfl
  | false => exact absurd rfl z
section JM
variable {G : gx} {k n : Nat} {ms mw ml mf mp mg : Int32} {T : Nat → Nat} {R : Bool}
theorem M_groupOf {h : ah} {mx mc : Int32} {M j : Nat} {gr : Nat → Int32} {p : Nat → Nat} (hM : M ≤ 20000) (g42 : h 42 = cM (nI k) (nI n) (nI (k ^ n)) ms mx mc mw ml mf mp mg) (g52 : h 52 = aI 20000 gr) (hg : ∀ i, i < M → gr i = nI (p i) ∧ p i ≤ i) (hj : j < M) {d : Nat} : Ct G mX8_groupOf d 0 0 [.ref 42, .int (nI j)] h (Rv (.int (nI (ro p j))) h) := by
  have hp : ∀ i, i < M → p i ≤ i := fun i hi => (hg i hi).2
  have key : ∀ b i, i ≤ b → i < M → ro p i = ro p j → V G mX8_groupOf (b0 d) 2 [some (.ref 42), some (.int (nI j)), some (.int (nI i))] [] h (Rv (.int (nI (ro p j))) h) := by
    intro b
    induction b with
    | zero =>
      intro i hb hi he
      have h0 : p i = i := by have := hp i hi; omega
      have e : gr (nI i).toNatClampNeg = nI i := by rw [nI_clamp (by omega), (hg i hi).1, h0]
      refine tX8_groupOf_2 g42 g52 (vp_in_nI (by omega) (by decide)) (fun _ => ⟨?_, rfl⟩) (fun z => absurd e z) (fun z => absurd e z)
      rw [← he, ro_fix h0]
    | succ b ih =>
      intro i hb hi he
      have h1 := hp i hi
      have e : gr (nI i).toNatClampNeg = nI (p i) := by rw [nI_clamp (by omega), (hg i hi).1]
      refine tX8_groupOf_2 g42 g52 (vp_in_nI (by omega) (by decide)) (fun z => ⟨?_, rfl⟩) (fun _ => vp_in_nI (by omega) (by decide)) (fun z => ?_)
      · rw [e, nI_eq (by omega) (by omega)] at z
        rw [← he, ro_fix z]
      · rw [e] at z ⊢
        have z2 : ¬ p i = i := fun q => z (by rw [q])
        refine ih (p i) (by omega) (by omega) ?_
        rw [← ro_step hp hi z2, he]
  refine Ct_of (by decide +kernel) (Nat.le_of_ble_eq_true rfl) (tX8_groupOf_0 ?_)
  exact key j j (Nat.le_refl _) hj rfl
theorem M_joins {h : ah} {mc : Int32} {E : Nat} {o1 o2 g0 : Nat → Int32} (dn : Bool) (ok : okW k n) (hT : pm (k ^ n) T) (ht : okT k n T) (g42 : h 42 = cM (nI k) (nI n) (nI (k ^ n)) ms (nI E) mc mw ml mf mp mg) (hm : RM k n T h) (hd : dn = true → E + nQ T (k ^ n) - 1 ≤ 400) (g48 : h 48 = aI 400 o1) (g49 : h 49 = aI 400 o2) (g52 : h 52 = aI 20000 g0) : Ct G mX8_joins 1 0 0 [.ref 42, .int (if dn then 1 else 0)] h (fun r h2 => ∃ J J2, J = jn (k ^ (n - 1)) (k ^ n - k ^ (n - 1)) 0 T E o1 o2 ∧ J2 = (if dn then J else (T, E, o1, o2)) ∧ r = some (.int (nI (J.2.1 - E))) ∧ (∃ c2, h2 42 = cM (nI k) (nI n) (nI (k ^ n)) ms (nI J2.2.1) c2 mw ml mf mp mg) ∧ RM k n J2.1 h2 ∧ h2 48 = aI 400 J2.2.2.1 ∧ h2 49 = aI 400 J2.2.2.2 ∧ (∃ g, h2 52 = aI 20000 g) ∧ Fr [42, 47, 48, 49, 51, 52] h h2) := by
  have hN := ok.le (Nat.le_refl n)
  have hk5 := ok.2.1
  have hle : k ^ (n - 1) ≤ k ^ n := Nat.pow_le_pow_right ok.pos (by omega)
  have hQ1 := nQ_pos hT hN (ok.pp n)
  have hQ2 := nQ_le hT hN
  generalize hJ : jn (k ^ (n - 1)) (k ^ n - k ^ (n - 1)) 0 T E o1 o2 = J
  have hend := jn_end (E := E) (o1 := o1) (o2 := o2) ok hT ht
  rw [hJ] at hend
  refine Ct_of (by decide +kernel) (Nat.le_of_ble_eq_true rfl) (tX8_joins_0 ?_)
  refine cX8_joins_1 (k := 40) (M_fC ok hT g42 hm (d := 0)) g42 ⟨by decide, by decide⟩ (Nat.le_of_ble_eq_true rfl) ⟨Nat.le_refl _, Nat.le_refl _⟩ (fun r h1 e => ?_)
  obtain ⟨rfl, k42, ⟨c1, k51, kc⟩, hm1, hf⟩ := e
  refine tX8_joins_4 ?_
  generalize hQQ : (fun (r : Option Value) (h2 : ah) => ∃ J3 J2, J3 = J ∧ J2 = (if dn then J3 else (T, E, o1, o2)) ∧ r = some (.int (nI (J3.2.1 - E))) ∧ (∃ c2, h2 42 = cM (nI k) (nI n) (nI (k ^ n)) ms (nI J2.2.1) c2 mw ml mf mp mg) ∧ RM k n J2.1 h2 ∧ h2 48 = aI 400 J2.2.2.1 ∧ h2 49 = aI 400 J2.2.2.2 ∧ (∃ g, h2 52 = aI 20000 g) ∧ Fr [42, 47, 48, 49, 51, 52] h h2) = Q
  have nx : ∀ x, x < k ^ n → ∃ j, j < nQ T (k ^ n) ∧ nC T (k ^ n) x = nI j := fun x hx => nC_val hT hN hx
  have out : ∀ m w (hh : ah) (Tw : Nat → Nat) (Ew : Nat) (p1 p2 gr : Nat → Int32) (p : Nat → Nat) (S : (Nat → Nat) × Nat × (Nat → Int32) × (Nat → Int32)), w + m = k ^ n - k ^ (n - 1) → pm (k ^ n) Tw → E ≤ Ew → Ew + nQ Tw (k ^ n) = E + nQ T (k ^ n) → jn (k ^ (n - 1)) m w Tw Ew p1 p2 = J → S = (if dn then (Tw, Ew, p1, p2) else (T, E, o1, o2)) → hh 42 = cM (nI k) (nI n) (nI (k ^ n)) ms (nI S.2.1) (nI (nQ T (k ^ n))) mw ml mf mp mg → hh 51 = aI 20000 c1 → RM k n S.1 hh → hh 48 = aI 400 S.2.2.1 → hh 49 = aI 400 S.2.2.2 → hh 52 = aI 20000 gr → (∀ i, i < nQ T (k ^ n) → gr i = nI (p i) ∧ p i ≤ i) → (∀ x y, x < k ^ n → y < k ^ n → (ro p (nC T (k ^ n) x).toNatClampNeg = ro p (nC T (k ^ n) y).toNatClampNeg ↔ rel Tw x y)) → Fr [42, 47, 48, 49, 51, 52] h hh → V G mX8_joins (1, 0, 0, 0 + 0, 0 + 0) 42 [some (.ref 42), some (.int (if dn then 1 else 0)), some (.int (nI (k ^ (n - 1)))), some (.int (nI (Ew - E))), some (.int (nI w))] [] hh Q := by
    intro m
    induction m with
    | zero =>
      intro w hh Tw Ew p1 p2 gr p S hw hpm hEw hsum hj hS c42 c51 cm c48 c49 c52 cg cl cf
      have kle : nI (k ^ n) ≤ nI w + nI (k ^ (n - 1)) := by rw [nI_add]; exact nI_le (by omega) (by omega)
      refine tX8_joins_42 c42 c51 (fun _ => ?_) (fun z => absurd kle z) (fun z => absurd kle z)
      have hj2 : (Tw, Ew, p1, p2) = J := hj
      rw [← hQQ]
      rw [hj2] at hS
      refine ⟨J, S, rfl, hS, ?_, ⟨_, c42⟩, cm, c48, c49, ⟨gr, c52⟩, cf⟩
      rw [← hj2]
    | succ m ih =>
      intro w hh Tw Ew p1 p2 gr p S hw hpm hEw hsum hj hS c42 c51 cm c48 c49 c52 cg cl cf
      have nle : ¬ nI (k ^ n) ≤ nI w + nI (k ^ (n - 1)) := by rw [nI_add]; exact nI_ge (by omega) (by omega)
      have hw1 : w < k ^ n := by omega
      have hw2 : w + k ^ (n - 1) < k ^ n := by omega
      obtain ⟨ja, ja1, ja2⟩ := nx w hw1
      obtain ⟨jb, jb1, jb2⟩ := nx (w + k ^ (n - 1)) hw2
      have hp : ∀ i, i < nQ T (k ^ n) → p i ≤ i := fun i hi => (cg i hi).2
      obtain ⟨A1, A2⟩ := ro_ok hp ja ja1
      obtain ⟨B1, B2⟩ := ro_ok hp jb jb1
      have hab := cl w (w + k ^ (n - 1)) hw1 hw2
      rw [ja2, jb2, nI_clamp (by omega), nI_clamp (by omega)] at hab
      refine tX8_joins_42 c42 c51 (fun z => absurd z nle) (fun _ => vp_in_nI (by omega) (by decide)) (fun _ => ?_)
      rw [nI_clamp (by omega), kc w hw1, ja2]
      refine cX8_joins_61 (k := 40) (M_groupOf (Nat.le_trans hQ2 hN) c42 c52 cg ja1 (d := 0)) c42 ⟨by decide, by decide⟩ (Nat.le_of_ble_eq_true rfl) ⟨Nat.le_refl _, Nat.le_refl _⟩ (fun r h2 e => ?_)
      obtain ⟨rfl, e⟩ := e; replace e := e.symm; subst e
      refine tX8_joins_64 c42 c51 (by rw [nI_add]; exact vp_in_nI (by omega) (by decide)) ?_
      rw [nI_add, nI_clamp (by omega), kc _ hw2, jb2]
      refine cX8_joins_76 (k := 40) (M_groupOf (Nat.le_trans hQ2 hN) c42 c52 cg jb1 (d := 0)) c42 ⟨by decide, by decide⟩ (Nat.le_of_ble_eq_true rfl) ⟨Nat.le_refl _, Nat.le_refl _⟩ (fun r h2 e => ?_)
      obtain ⟨rfl, e⟩ := e; replace e := e.symm; subst e
      unfold jn at hj
      by_cases heq : ro p ja = ro p jb
      · have hb : jB Tw w (w + k ^ (n - 1)) = true := jB_iff.mp (hab.mp heq)
        rw [if_pos hb] at hj
        have z0 : nI (ro p ja) = nI (ro p jb) := by rw [heq]
        refine tX8_joins_79 c42 c52 (fun _ => ?_) (fun z => absurd z0 z) (fun z => absurd z0 z) (fun z => absurd z0 z) (fun z => absurd z0 z) (fun z => absurd z0 z) (fun z => absurd z0 z) (fun z => absurd z0 z) (fun z => absurd z0 z) (fun z => absurd z0 z) (fun z => absurd z0 z) (fun z => absurd z0 z) (fun z => absurd z0 z)
        rw [nI_1]
        exact ih (w + 1) hh Tw Ew p1 p2 gr p S (by omega) hpm hEw hsum hj hS c42 c51 cm c48 c49 c52 cg cl cf
      · have hb : ¬ jB Tw w (w + k ^ (n - 1)) = true := fun q => heq (hab.mpr (jB_iff.mpr q))
        rw [if_neg hb] at hj
        have z0 : ¬ nI (ro p ja) = nI (ro p jb) := fun q => heq ((nI_eq (by omega) (by omega)).mp q)
        have hdr : ¬ rel Tw w (w + k ^ (n - 1)) := fun q => hb (jB_iff.mp q)
        have hpm2 := sw_pm hpm (a := w) (b := w + k ^ (n - 1)) hw1 hw2
        have hq2 := nQ_pos hpm2 hN (ok.pp n)
        have hsum2 : Ew + 1 + nQ (sw Tw w (w + k ^ (n - 1))) (k ^ n) = E + nQ T (k ^ n) := by
          have := cnt_merge hpm (a := w) (b := w + k ^ (n - 1)) hw1 hw2 hdr
          rw [← nQ_cs hpm hN, ← nQ_cs hpm2 hN] at this
          omega
        -- the new forest: q gets parent r
        have body : ∀ q r (x5 s0 : Int32), r < q → q < nQ T (k ^ n) → p q = q → p r = r → ((ro p ja = r ∧ ro p jb = q) ∨ (ro p ja = q ∧ ro p jb = r)) → (dn = false → V G mX8_joins (1, 0, 0, 0 + 0, 0 + 0) 42 [some (.ref 42), some (.int (if dn then 1 else 0)), some (.int (nI (k ^ (n - 1)))), some (.int (nI (Ew - E + 1))), some (.int (nI (w + 1)))] [] (va_up hh 52 (aI 20000 (upd gr q (nI r)))) Q) ∧ (dn = true → V G mX8_joins (1, 0, 0, 0 + 0, 0 + 0) 132 [some (.ref 42), some (.int (if dn then 1 else 0)), some (.int (nI (k ^ (n - 1)))), some (.int (nI (Ew - E))), some (.int (nI w)), some (.int x5), some (.int s0)] [.int (nI (w + k ^ (n - 1))), .int (nI w), .ref 42] (va_up hh 52 (aI 20000 (upd gr q (nI r)))) Q) := by
          intro q r x5 s0 hrq hqM hpq hpr hlab
          have cg2 : ∀ i, i < nQ T (k ^ n) → upd gr q (nI r) i = nI ((fun i => if i = q then r else p i) i) ∧ (fun i => if i = q then r else p i) i ≤ i := fun i hi => by
            show upd gr q (nI r) i = nI (if i = q then r else p i) ∧ (if i = q then r else p i) ≤ i
            by_cases hiq : i = q
            · rw [hiq, pk_us, if_pos rfl]
              exact ⟨rfl, by omega⟩
            · rw [pk_un hiq, if_neg hiq]
              exact cg i hi
          have cl2 : ∀ x y, x < k ^ n → y < k ^ n → (ro (fun i => if i = q then r else p i) (nC T (k ^ n) x).toNatClampNeg = ro (fun i => if i = q then r else p i) (nC T (k ^ n) y).toNatClampNeg ↔ rel (sw Tw w (w + k ^ (n - 1))) x y) := by
            refine relab hpm (fun x => ro p (nC T (k ^ n) x).toNatClampNeg) (fun x => ro (fun i => if i = q then r else p i) (nC T (k ^ n) x).toNatClampNeg) hw1 hw2 (p := r) (q := q) cl ?_ (by omega) (fun x hx e => ?_) (fun x hx e => ?_)
            · show (ro p (nC T (k ^ n) w).toNatClampNeg = r ∧ ro p (nC T (k ^ n) (w + k ^ (n - 1))).toNatClampNeg = q) ∨ (ro p (nC T (k ^ n) w).toNatClampNeg = q ∧ ro p (nC T (k ^ n) (w + k ^ (n - 1))).toNatClampNeg = r)
              rw [ja2, jb2, nI_clamp (by omega), nI_clamp (by omega)]
              exact hlab
            · obtain ⟨i, i1, i2⟩ := nx x hx
              have e2 : ro p (nC T (k ^ n) x).toNatClampNeg = q := e
              show ro (fun i => if i = q then r else p i) (nC T (k ^ n) x).toNatClampNeg = r
              rw [i2, nI_clamp (by omega)] at e2 ⊢
              rw [ro_upd hp hpq hpr hrq hqM i i1, if_pos e2]
            · obtain ⟨i, i1, i2⟩ := nx x hx
              have e2 : ¬ ro p (nC T (k ^ n) x).toNatClampNeg = q := e
              show ro (fun i => if i = q then r else p i) (nC T (k ^ n) x).toNatClampNeg = ro p (nC T (k ^ n) x).toNatClampNeg
              rw [i2, nI_clamp (by omega)] at e2 ⊢
              rw [ro_upd hp hpq hpr hrq hqM i i1, if_neg e2]
          refine ⟨fun hdn => ?_, fun hdn => ?_⟩
          · rw [show Ew - E + 1 = Ew + 1 - E by omega]
            refine ih (w + 1) _ (sw Tw w (w + k ^ (n - 1))) (Ew + 1) _ _ _ (fun i => if i = q then r else p i) (T, E, o1, o2) (by omega) hpm2 (by omega) hsum2 hj (by rw [hdn]; rfl) ?_ ((up_n _ _ (by decide)).trans c51) ?_ ?_ ?_ (up_s _ _ _) cg2 cl2 (cf.up (by decide))
            · rw [hdn] at hS
              have : S = (T, E, o1, o2) := hS
              rw [this] at c42
              exact (up_n _ _ (by decide)).trans c42
            · rw [hdn] at hS
              have : S = (T, E, o1, o2) := hS
              rw [this] at cm
              exact cm
            · rw [hdn] at hS
              have : S = (T, E, o1, o2) := hS
              rw [this] at c48
              exact (up_n _ _ (by decide)).trans c48
            · rw [hdn] at hS
              have : S = (T, E, o1, o2) := hS
              rw [this] at c49
              exact (up_n _ _ (by decide)).trans c49
          · rw [hdn] at hS
            have hS2 : S = (Tw, Ew, p1, p2) := hS
            rw [hS2] at c42 cm c48 c49
            have hE4 := hd hdn
            have c42' : (va_up hh 52 (aI 20000 (upd gr q (nI r)))) 42 = cM (nI k) (nI n) (nI (k ^ n)) ms (nI Ew) (nI (nQ T (k ^ n))) mw ml mf mp mg := (up_n _ _ (by decide)).trans c42
            have cm' : RM k n Tw (va_up hh 52 (aI 20000 (upd gr q (nI r)))) := cm
            refine cX8_joins_132 (k := 40) (h := va_up hh 52 (aI 20000 (upd gr q (nI r)))) (M_swap ok c42' cm' hw1 hw2 (d := 0)) c42' ⟨by decide, by decide⟩ (Nat.le_of_ble_eq_true rfl) ⟨Nat.le_refl _, Nat.le_refl _⟩ (fun r2 h5 e => ?_)
            obtain ⟨rfl, cm5, cf5⟩ := e
            have d42 := (cf5 42 (by decide)).trans c42'
            have d48 : h5 48 = aI 400 p1 := (cf5 48 (by decide)).trans ((up_n _ _ (by decide)).trans c48)
            have d49 : h5 49 = aI 400 p2 := (cf5 49 (by decide)).trans ((up_n _ _ (by decide)).trans c49)
            refine tX8_joins_135 d42 d48 d49 (vp_in_nI (by omega) (by decide)) (vp_in_nI (by omega) (by decide)) ?_
            rw [nI_1, nI_1, nI_1, nI_clamp (by omega), nI_add, show Ew - E + 1 = Ew + 1 - E by omega]
            refine ih (w + 1) _ (sw Tw w (w + k ^ (n - 1))) (Ew + 1) (upd p1 Ew (nI w)) (upd p2 Ew (nI (w + k ^ (n - 1)))) (upd gr q (nI r)) (fun i => if i = q then r else p i) (sw Tw w (w + k ^ (n - 1)), Ew + 1, upd p1 Ew (nI w), upd p2 Ew (nI (w + k ^ (n - 1)))) (by omega) hpm2 (by omega) hsum2 hj (by rw [hdn]; rfl) (up_s _ _ _) ?_ cm5 rfl rfl ?_ cg2 cl2 ?_
            · exact (cf5 51 (by decide)).trans ((up_n _ _ (by decide)).trans c51)
            · exact (cf5 52 (by decide)).trans (up_s _ _ _)
            · exact Fr.up (Fr.up (Fr.up (Fr.tr (cf.up (by decide)) cf5 (by decide)) (by decide)) (by decide)) (by decide)
        have dz : ∀ {P : Prop}, (if dn then (1 : Int32) else 0) = 0 → (dn = false → P) → P := fun z f => f (ri_0.mp z)
        have dnz : ∀ {P : Prop}, ¬ (if dn then (1 : Int32) else 0) = 0 → (dn = true → P) → P := fun z f => f (ri_1 z)
        have ca : (nI (ro p ja)).toNatClampNeg = ro p ja := nI_clamp (by omega)
        have cb : (nI (ro p jb)).toNatClampNeg = ro p jb := nI_clamp (by omega)
        refine tX8_joins_79 c42 c52 (fun z => absurd z z0) (fun _ _ _ => vp_in_nI (by omega) (by decide)) (fun _ z _ z4 => ?_) (fun _ z _ z4 => ?_) (fun _ z1 z2 => absurd z1 z2) (fun _ z1 z2 => absurd z1 z2) (fun _ z1 z2 => absurd z1 z2) (fun _ z1 z2 => absurd z2 z1) (fun _ z1 z2 => absurd z2 z1) (fun _ z1 z2 => absurd z2 z1) (fun _ _ _ => vp_in_nI (by omega) (by decide)) (fun _ z _ z4 => ?_) (fun _ z _ z4 => ?_)
        · rw [nI_leI (by omega) (by omega)] at z
          rw [cb, nI_1, nI_1]
          exact dz z4 (body (ro p jb) (ro p ja) 0 0 (by omega) (by omega) B2 A2 (Or.inl ⟨rfl, rfl⟩)).1
        · rw [nI_leI (by omega) (by omega)] at z
          rw [cb, nI_add]
          exact dnz z4 (body (ro p jb) (ro p ja) _ _ (by omega) (by omega) B2 A2 (Or.inl ⟨rfl, rfl⟩)).2
        · rw [nI_leI (by omega) (by omega)] at z
          rw [ca, nI_1, nI_1]
          exact dz z4 (body (ro p ja) (ro p jb) 0 0 (by omega) (by omega) A2 B2 (Or.inr ⟨rfl, rfl⟩)).1
        · rw [nI_leI (by omega) (by omega)] at z
          rw [ca, nI_add]
          exact dnz z4 (body (ro p ja) (ro p jb) _ _ (by omega) (by omega) A2 B2 (Or.inr ⟨rfl, rfl⟩)).2
  have first : ∀ m j (hh : ah) (g1 : Nat → Int32), j + m = nQ T (k ^ n) → hh 52 = aI 20000 g1 → (∀ i, i < j → g1 i = nI i) → Fr [52] h1 hh → V G mX8_joins (1, 0, 0, 0 + 0, 0 + 0) 6 [some (.ref 42), some (.int (if dn then 1 else 0)), some (.int (nI j))] [] hh Q := by
    intro m
    induction m with
    | zero =>
      intro j hh g1 hj c52 cg cf
      have c42 := (cf 42 (by decide)).trans k42
      refine tX8_joins_6 c42 c52 (fun _ => nI_n0 ok.pos (by omega)) (fun _ => ?_) (fun z => absurd (nI_le (by omega) (by omega)) z) (fun z => absurd (nI_le (by omega) (by omega)) z)
      rw [hi_eq ok]
      have hff : Fr [42, 47, 48, 49, 51, 52] h hh := Fr.tr (hf.mono (by decide)) cf (by decide)
      have cmm : RM k n T hh := by
        obtain ⟨⟨tt, q1, q2⟩, ⟨sn, q3⟩, ⟨nn, q4⟩⟩ := hm1
        exact ⟨⟨tt, (cf 47 (by decide)).trans q1, q2⟩, ⟨sn, (cf 50 (by decide)).trans q3⟩, ⟨nn, (cf 51 (by decide)).trans q4⟩⟩
      have := out (k ^ n - k ^ (n - 1)) 0 hh T E o1 o2 g1 (fun i => i) (T, E, o1, o2) (by omega) hT (Nat.le_refl _) rfl hJ (by cases dn <;> rfl) c42 ((cf 51 (by decide)).trans k51) cmm ((cf 48 (by decide)).trans ((hf 48 (by decide)).trans g48)) ((cf 49 (by decide)).trans ((hf 49 (by decide)).trans g49)) c52 (fun i hi => ⟨cg i (by omega), Nat.le_refl _⟩) (fun x y hx hy => ?_) hff
      · rw [Nat.sub_self] at this
        exact this
      · obtain ⟨i, i1, i2⟩ := nx x hx
        obtain ⟨j2, j3, j4⟩ := nx y hy
        rw [← nC_rel hT hN hx hy, i2, j4, nI_clamp (by omega), nI_clamp (by omega), ro_fix rfl, ro_fix rfl, nI_eq (by omega) (by omega)]
    | succ m ih =>
      intro j hh g1 hj c52 cg cf
      have c42 := (cf 42 (by decide)).trans k42
      refine tX8_joins_6 c42 c52 (fun z => absurd z (nI_ge (by omega) (by omega))) (fun z => absurd z (nI_ge (by omega) (by omega))) (fun _ => vp_in_nI (by omega) (by decide)) (fun _ => ?_)
      rw [nI_1, nI_clamp (by omega)]
      refine ih (j + 1) _ _ (by omega) (up_s _ _ _) (fun i hi => ?_) (cf.up (by decide))
      by_cases hij : i = j
      · rw [hij, pk_us]
      · rw [pk_un hij]; exact cg i (by omega)
  exact first (nQ T (k ^ n)) 0 h1 g0 (by omega) ((hf 52 (by decide)).trans g52) (fun i hi => absurd hi (Nat.not_lt_zero i)) Fr.rf
theorem M_join {h : ah} {mc : Int32} {E : Nat} {o1 o2 g0 : Nat → Int32} (ok : okW k n) (hT : ∀ w, w < k ^ n → T w < k ^ n) (hR : inj (k ^ n) T ↔ R = true) (ht : okT k n T) (g42 : h 42 = cM (nI k) (nI n) (nI (k ^ n)) ms (nI E) mc mw ml mf mp mg) (hm : RM k n T h) (hE : E ≤ 400) (g48 : h 48 = aI 400 o1) (g49 : h 49 = aI 400 o2) (g52 : h 52 = aI 20000 g0) : Ct G mX8_join 2 0 0 [.ref 42] h (fun r h2 => if R = false then r = some (.int (-3)) ∧ h2 42 = cM (nI k) (nI n) (nI (k ^ n)) ms (nI E) mc mw ml mf mp mg ∧ RM k n T h2 ∧ Fr [50] h h2 else if 400 < E + nQ T (k ^ n) - 1 then r = some (.int (-4)) ∧ (∃ c2, h2 42 = cM (nI k) (nI n) (nI (k ^ n)) ms (nI E) c2 mw ml mf mp mg) ∧ RM k n T h2 ∧ h2 48 = aI 400 o1 ∧ h2 49 = aI 400 o2 ∧ (∃ g, h2 52 = aI 20000 g) ∧ Fr [42, 47, 48, 49, 50, 51, 52] h h2 else ∃ J, J = jn (k ^ (n - 1)) (k ^ n - k ^ (n - 1)) 0 T E o1 o2 ∧ r = some (.int (nI (J.2.1 - E))) ∧ (∃ c2, h2 42 = cM (nI k) (nI n) (nI (k ^ n)) ms (nI J.2.1) c2 mw ml mf mp mg) ∧ RM k n J.1 h2 ∧ h2 48 = aI 400 J.2.2.1 ∧ h2 49 = aI 400 J.2.2.2 ∧ (∃ g, h2 52 = aI 20000 g) ∧ Fr [42, 47, 48, 49, 50, 51, 52] h h2) := by
  have hN := ok.le (Nat.le_refl n)
  refine Ct_of (by decide +kernel) (Nat.le_of_ble_eq_true rfl) (tX8_join_0 ?_)
  refine cX8_join_1 (k := 40) (M_isR ok hT hR g42 hm (d := 0)) g42 ⟨by decide, by decide⟩ (Nat.le_of_ble_eq_true rfl) ⟨Nat.le_refl _, Nat.le_refl _⟩ (fun r h1 e => ?_)
  obtain ⟨rfl, hm1, hf⟩ := e
  have k42 := (hf 42 (by decide)).trans g42
  refine tX8_join_4 k42 (fun z => ?_) (fun z => ?_)
  · rw [ri_0] at z
    have hr : R = true := by cases R <;> simp_all
    have hpm : pm (k ^ n) T := ⟨hT, hR.mpr hr⟩
    have hQ2 := nQ_le hpm hN
    simp only [if_neg z]
    have hend := jn_end (E := E) (o1 := o1) (o2 := o2) ok hpm ht
    refine cX8_join_16 (k := 40) (M_joins false ok hpm ht k42 hm1 (fun q => absurd q (by decide)) ((hf 48 (by decide)).trans g48) ((hf 49 (by decide)).trans g49) ((hf 52 (by decide)).trans g52)) k42 ⟨by decide, by decide⟩ (Nat.le_of_ble_eq_true rfl) ⟨Nat.le_refl _, Nat.le_refl _⟩ (fun r h2 e => ?_)
    obtain ⟨J, J2, hJ, hJ2, rfl, ⟨c2, d42⟩, dm, d48, d49, ⟨gg, d52⟩, df⟩ := e
    have hJ3 : J2 = (T, E, o1, o2) := hJ2
    subst hJ3
    rw [← hJ] at hend
    have hff : Fr [42, 47, 48, 49, 50, 51, 52] h h2 := Fr.tr (hf.mono (by decide)) df (by decide)
    refine tX8_join_19 (fun z2 => ?_) (fun z2 => ?_)
    · rw [nI_add] at z2
      replace z2 := (nI_leI (a := E + (J.2.1 - E)) (b := 400) (by omega) (by omega)).mp z2
      have hfull : ¬ 400 < E + nQ T (k ^ n) - 1 := by omega
      simp only [if_neg hfull]
      refine cX8_join_31 (k := 40) (M_joins (E := E) (o1 := o1) (o2 := o2) true ok hpm ht d42 dm (fun _ => by omega) d48 d49 d52) d42 ⟨by decide, by decide⟩ (Nat.le_of_ble_eq_true rfl) ⟨Nat.le_refl _, Nat.le_refl _⟩ (fun r h3 e => ?_)
      obtain ⟨K, K2, hK, hK2, rfl, e42, em, e48, e49, e52, ef⟩ := e
      have hK3 : K2 = K := hK2
      subst hK3
      exact tX8_join_34 ⟨K2, hK, rfl, e42, em, e48, e49, e52, Fr.tr hff ef (by decide)⟩
    · rw [nI_add] at z2
      have z3 : ¬ E + (J.2.1 - E) ≤ 400 := fun q => z2 (nI_le (b := 400) q (by decide))
      have hfull : 400 < E + nQ T (k ^ n) - 1 := by omega
      rw [if_pos hfull]
      exact ⟨rfl, ⟨c2, d42⟩, dm, d48, d49, ⟨gg, d52⟩, hff⟩
  · rw [ri_0] at z
    rw [if_pos z]
    exact ⟨rfl, k42, hm1, hf⟩
end JM
