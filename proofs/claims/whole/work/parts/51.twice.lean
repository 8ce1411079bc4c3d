/-! twice: the two answers -/
section XT
variable {G : gx} {h : ah} {k n : Nat} {f l : Int32} {tp : Nat → Option Nat}
theorem X_twice_no (g2 : h 2 = cX f l) (g23 : h 23 = (4, .inr (4, .inr (.inr tp)))) {x : Int32} (hb : x < 0 ∨ 4 ≤ x) : Ct G mX7_twice 2 0 0 [.ref 2, .int x] h (Rv (.int (-2)) h) := by
  refine Ct_of (by decide +kernel) (Nat.le_of_ble_eq_true rfl) (tX7_twice_0 ?_)
  refine cX7_twice_1 (C_isTape (d := 0) _) ⟨by decide, by decide⟩ (Nat.le_of_ble_eq_true rfl) ⟨Nat.le_refl _, Nat.le_refl _⟩ (fun r h2 e => ?_)
  obtain ⟨rfl, e⟩ := e; replace e := e.symm; subst e
  exact tX7_twice_4 (ta := 0) g2 g23 (fun e => absurd ((z01 _).mpr hb) e) (fun e => absurd ((z01 _).mpr hb) e) (fun e => absurd ((z01 _).mpr hb) e) (fun _ => ⟨rfl, rfl⟩)
theorem X_twice {t L : Nat} {fm : Int32} {it bb : Nat → Int32} (ok : okW k n) (g2 : h 2 = cX f l) (g3 : h 3 = cW k n) (g23 : h 23 = (4, .inr (4, .inr (.inr tp)))) (htp : isTp tp) (ht : t < 4) (hL : L ≤ 200) (gt : h (3 * t + 22 + 2) = cTt t fm (nI L)) (gi : h (3 * t + 23 + 2) = aI 200 it) (gb : h (3 * t + 24 + 2) = aI 200 bb) : Ct G mX7_twice 2 0 0 [.ref 2, .int (nI t)] h (fun r h2 => if fm = -1 then r = some (.int (-11)) ∧ h2 = va_up h 2 (cX f 1) else if L = 0 ∨ ab k it 0 L = false then r = some (.int (-3)) ∧ h2 = h else (∃ x, r = some (.int x) ∧ isR (fun j i => wv k (fun q => (it q).toNatClampNeg) L i n = wv k (fun q => (it q).toNatClampNeg) L j n) L x) ∧ (∃ b2, h2 (3 * t + 24 + 2) = aI 200 b2) ∧ Fr [3 * t + 24 + 2] h h2) := by
  have hk5 := ok.2.1
  refine Ct_of (by decide +kernel) (Nat.le_of_ble_eq_true rfl) (tX7_twice_0 ?_)
  refine cX7_twice_1 (C_isTape (d := 0) _) ⟨by decide, by decide⟩ (Nat.le_of_ble_eq_true rfl) ⟨Nat.le_refl _, Nat.le_refl _⟩ (fun r h2 e => ?_)
  obtain ⟨rfl, e⟩ := e; replace e := e.symm; subst e
  refine tX7_twice_4 (ta := 3 * t + 22) g2 g23 (fun _ => vp_in_nI ht (by decide)) (fun _ => by rw [nI_clamp (by omega)]; exact htp t ht) (fun _ => ?_) (fun e => absurd ((z01 _).mp e) (t4_no ht))
  refine cX7_twice_18 (C_isLost gt (d := 0)) gt ⟨by decide, by decide⟩ (Nat.le_of_ble_eq_true rfl) ⟨Nat.le_refl _, Nat.le_refl _⟩ (fun r h3 e => ?_)
  obtain ⟨rfl, e⟩ := e; replace e := e.symm; subst e
  refine tX7_twice_21 gt (fun e1 e2 => ?_) (fun e1 e2 => ?_) (fun e1 => ?_)
  · have hfm : ¬ fm = -1 := fun q => by rw [if_pos q] at e1; exact absurd e1 (by decide)
    have hL0 : L = 0 := (nI_eq (by omega) (by omega)).mp (e2.trans nI_0.symm)
    rw [if_neg hfm, if_pos (Or.inl hL0)]
    exact ⟨rfl, rfl⟩
  · have hfm : ¬ fm = -1 := fun q => by rw [if_pos q] at e1; exact absurd e1 (by decide)
    have hL0 : ¬ L = 0 := fun q => e2 (by rw [q]; exact nI_0)
    simp only [if_neg hfm]
    refine cX7_twice_38 (C_hasBlanks g3 hL gt gi) gt ⟨by decide, by decide⟩ (Nat.le_of_ble_eq_true rfl) ⟨Nat.le_refl _, Nat.le_refl _⟩ (fun r h4 e => ?_)
    obtain ⟨rfl, e⟩ := e; replace e := e.symm; subst e
    refine tX7_twice_41 (fun e3 => ?_) (fun e3 => ?_)
    · rw [s10] at e3
      have hc : ¬ (L = 0 ∨ ab k it 0 L = false) := fun q => q.elim hL0 (fun q => by rw [e3] at q; exact absurd q (by decide))
      simp only [if_neg hc]
      have hv := ab_val (by omega) e3
      refine cX7_twice_50 (C_firstRepeated (t := 3 * t + 22) (i := 3 * t + 23) (b := 3 * t + 24) (v := fun q => (it q).toNatClampNeg) ok g3 hL gt gi gb (by omega) (by omega) (by omega) (fun j hj => by have := hv j hj; rw [Nat.zero_add] at this; exact this)) gt ⟨by decide, by decide⟩ (Nat.le_of_ble_eq_true rfl) ⟨Nat.le_refl _, Nat.le_refl _⟩ (fun r h5 e => ?_)
      obtain ⟨⟨x, rfl, hx⟩, hb, hf⟩ := e
      exact tX7_twice_53 ⟨⟨x, rfl, hx⟩, hb, hf⟩
    · rw [s10] at e3
      rw [if_pos (Or.inr (by cases hb : ab k it 0 L <;> simp_all))]
      exact ⟨rfl, rfl⟩
  · have hfm : fm = -1 := Decidable.not_not.mp (fun q => e1 (by rw [if_neg q]))
    refine cX7_twice_26 (k := 0) (C_finding g2 _ (d := 0)) g2 ⟨by decide, by decide⟩ (Nat.le_of_ble_eq_true rfl) ⟨Nat.le_refl _, Nat.le_refl _⟩ (fun r h5 e3 => ?_)
    obtain ⟨rfl, e3⟩ := e3; replace e3 := e3.symm; subst e3
    refine tX7_twice_29 ?_
    rw [if_pos hfm]
    exact ⟨by rw [show (-10 : Int32) - 1 = -11 by decide], rfl⟩
end XT
section MT2
variable {G : gx} {h : ah} {k n : Nat} {s mx mc mw ml mf mp mg : Int32} {fs sz it : Nat → Int32}
theorem M_twice_no (g42 : h 42 = cM (nI k) (nI n) (nI (k ^ n)) s mx mc mw ml mf mp mg) {x : Int32} (hb : x < 0 ∨ 4 ≤ x) : Ct G mX8_twice 2 0 0 [.ref 42, .int x] h (Rv (.int (-2)) h) := by
  refine Ct_of (by decide +kernel) (Nat.le_of_ble_eq_true rfl) (tX8_twice_0 ?_)
  refine cX8_twice_1 (M_isTape _) ⟨by decide, by decide⟩ (Nat.le_of_ble_eq_true rfl) ⟨Nat.le_refl _, Nat.le_refl _⟩ (fun r h2 e => ?_)
  obtain ⟨rfl, e⟩ := e; replace e := e.symm; subst e
  exact tX8_twice_4 (fun e => absurd ((z01 _).mpr hb) e) (fun _ => ⟨rfl, rfl⟩)
theorem M_twice {t L : Nat} (ok : okW k n) (g42 : h 42 = cM (nI k) (nI n) (nI (k ^ n)) s mx mc mw ml mf mp mg) (g55 : h 55 = aI 4 fs) (g56 : h 56 = aI 4 sz) (g57 : h 57 = aI 800 it) (ht : t < 4) (hL : L ≤ 200) (hneg : 0 ≤ fs t ↔ ¬ fs t = -1) (hsz : sz t = nI L) : Ct G mX8_twice 2 0 0 [.ref 42, .int (nI t)] h (fun r h2 => if fs t = -1 then r = some (.int (-11)) ∧ h2 = va_up h 42 (cM (nI k) (nI n) (nI (k ^ n)) s mx mc mw 1 mf mp mg) else if L = 0 ∨ ab k it (200 * t) L = false then r = some (.int (-3)) ∧ h2 = h else (∃ x, r = some (.int x) ∧ isR (fun j i => wv k (fun q => (it (200 * t + q)).toNatClampNeg) L i n = wv k (fun q => (it (200 * t + q)).toNatClampNeg) L j n) L x) ∧ h2 = h) := by
  have hk5 := ok.2.1
  have hk0 := ok.1
  have hn := ok.2.2.1
  have hn2 := ok.2.2.2.1
  have ct : (nI t).toNatClampNeg = t := nI_clamp (by omega)
  refine Ct_of (by decide +kernel) (Nat.le_of_ble_eq_true rfl) (tX8_twice_0 ?_)
  refine cX8_twice_1 (M_isTape _) ⟨by decide, by decide⟩ (Nat.le_of_ble_eq_true rfl) ⟨Nat.le_refl _, Nat.le_refl _⟩ (fun r h2 e => ?_)
  obtain ⟨rfl, e⟩ := e; replace e := e.symm; subst e
  refine tX8_twice_4 (fun _ => ?_) (fun e => absurd ((z01 _).mp e) (t4_no ht))
  refine cX8_twice_12 (k := 40) (M_noLetters ⟨by omega, by omega⟩ g42 g55 g56 g57 ht hL hneg hsz) g42 ⟨by decide, by decide⟩ (Nat.le_of_ble_eq_true rfl) ⟨Nat.le_refl _, Nat.le_refl _⟩ (fun r h3 e => ?_)
  by_cases hfm : fs t = -1
  · rw [if_pos hfm] at e
    obtain ⟨rfl, e⟩ := e; replace e := e.symm; subst e
    refine tX8_twice_15 (h := va_up h 42 (cM (nI k) (nI n) (nI (k ^ n)) s mx mc mw 1 mf mp mg)) (up_s _ _ _) ((up_n _ _ (by decide)).trans g56) (fun e => absurd e (by decide)) (fun e => absurd e (by decide)) (fun e => absurd e (by decide)) (fun _ => ?_)
    rw [if_pos hfm]
    exact ⟨rfl, rfl⟩
  · rw [if_neg hfm] at e
    obtain ⟨rfl, e⟩ := e; replace e := e.symm; subst e
    simp only [if_neg hfm]
    cases hb : ab k it (200 * t) L with
    | false =>
      refine tX8_twice_15 g42 g56 (fun e => absurd e (by decide)) (fun e => absurd e (by decide)) (fun e => absurd e (by decide)) (fun _ => ?_)
      rw [if_pos (Or.inr rfl)]
      exact ⟨rfl, rfl⟩
    | true =>
      by_cases hL0 : L = 0
      · refine tX8_twice_15 g42 g56 (fun _ => vp_in_nI ht (by decide)) (fun _ e => absurd (by rw [ct, hsz, hL0]; exact nI_0) e) (fun _ _ => ?_) (fun e => absurd rfl e)
        rw [if_pos (Or.inl hL0)]
        exact ⟨rfl, rfl⟩
      · refine tX8_twice_15 g42 g56 (fun _ => vp_in_nI ht (by decide)) (fun _ _ => ?_) (fun _ e => absurd e (by rw [ct, hsz]; exact nI_n0 (by omega) (by omega))) (fun e => absurd rfl e)
        have hc : ¬ (L = 0 ∨ true = false) := fun q => q.elim hL0 (fun q => absurd q (by decide))
        simp only [if_neg hc]
        have hv := ab_val (k := k) (by omega) hb
        generalize hvv : (fun q => (it (200 * t + q)).toNatClampNeg) = v
        have hv1 : ∀ j, j < L → it (200 * t + j) = nI (v j) ∧ v j < k := fun j hj => by rw [← hvv]; exact hv j hj
        have hv2 : ∀ j, j < L → v j < k := fun j hj => (hv1 j hj).2
        generalize hQ : (fun (r : Option Value) (hh : ah) => (∃ x, r = some (.int x) ∧ isR (fun j i => wv k v L i n = wv k v L j n) L x) ∧ hh = h) = Q
        have inn : ∀ (i j : Nat), j < i → i < L → (¬ wv k v L i n = wv k v L j n → V G mX8_twice (b0 2) 49 [some (.ref 42), some (.int (nI t)), some (.int (if true = true then 0 else -3)), some (.int (nI i)), some (.int (nI (j + 1)))] [] h Q) → (wv k v L i n = wv k v L j n → Q (some (.int (nI i))) h) → ∀ m a, a + m = n → (∀ a2, a2 < a → v ((i + a2) % L) = v ((j + a2) % L)) → V G mX8_twice (b0 2) 61 [some (.ref 42), some (.int (nI t)), some (.int (if true = true then 0 else -3)), some (.int (nI i)), some (.int (nI j)), some (.int 1), some (.int (nI a))] [] h Q := by
          intro i j hji hi kno kyes m
          induction m with
          | zero =>
            intro a ha hq
            have han : a = n := by omega
            refine tX8_twice_61 g42 g56 g57 (fun _ e => absurd e (by decide)) (fun _ _ => ?_) (fun e => absurd (nI_le (by omega) (by omega)) e) (fun e => absurd (nI_le (by omega) (by omega)) e) (fun e => absurd (nI_le (by omega) (by omega)) e) (fun e => absurd (nI_le (by omega) (by omega)) e) (fun e => absurd (nI_le (by omega) (by omega)) e) (fun e => absurd (nI_le (by omega) (by omega)) e) (fun e => absurd (nI_le (by omega) (by omega)) e) (fun e => absurd (nI_le (by omega) (by omega)) e) (fun e => absurd (nI_le (by omega) (by omega)) e) (fun e => absurd (nI_le (by omega) (by omega)) e)
            exact kyes ((wv_eq (by omega) hv2 n).mpr (fun a2 ha2 => hq a2 (by omega)))
          | succ m ih =>
            intro a ha hq
            have nle : ∀ {P : Prop}, nI n ≤ nI a → P := fun e => absurd e (nI_ge (by omega) (by omega))
            have r1 : ∀ q : Nat, q < L → ((nI q + nI a) - (nI q + nI a) / sz (nI t).toNatClampNeg * sz (nI t).toNatClampNeg) = nI ((q + a) % L) := fun q hq => by rw [ct, hsz, nI_add, pk_rem (by omega) (by omega) (by omega)]
            have m1 := Nat.mod_lt (i + a) (show 0 < L by omega)
            have m2 := Nat.mod_lt (j + a) (show 0 < L by omega)
            have z0 : ¬ sz (nI t).toNatClampNeg = 0 := by rw [ct, hsz]; exact nI_n0 (by omega) (by omega)
            have i1 : it (((200 : Int32) * nI t) + ((nI i + nI a) - (nI i + nI a) / sz (nI t).toNatClampNeg * sz (nI t).toNatClampNeg)).toNatClampNeg = nI (v ((i + a) % L)) := by rw [r1 i hi, ix_200, nI_clamp (by omega), (hv1 _ m1).1]
            have i2 : it (((200 : Int32) * nI t) + ((nI j + nI a) - (nI j + nI a) / sz (nI t).toNatClampNeg * sz (nI t).toNatClampNeg)).toNatClampNeg = nI (v ((j + a) % L)) := by rw [r1 j (by omega), ix_200, nI_clamp (by omega), (hv1 _ m2).1]
            have b1 := hv2 _ m1
            have b2 := hv2 _ m2
            refine tX8_twice_61 g42 g56 g57 (fun e => nle e) (fun e => nle e) (fun _ e => absurd e (by decide)) (fun _ e => absurd e (by decide)) (fun _ _ => vp_in_nI ht (by decide)) (fun _ _ => z0) (fun _ _ => by rw [r1 i hi, ix_200]; exact vp_in_nI (by omega) (by decide)) (fun _ _ => vp_in_nI ht (by decide)) (fun _ _ => z0) (fun _ _ => by rw [r1 j (by omega), ix_200]; exact vp_in_nI (by omega) (by decide)) (fun _ _ e => ?_) (fun _ _ e => ?_)
            · have hne : ¬ wv k v L i n = wv k v L j n := fun q => e (by rw [i1, i2, (wv_eq (by omega) hv2 n).mp q a (by omega)])
              rw [nI_1]
              by_cases hh : nI n ≤ nI (a + 1)
              · exact tX8_twice_61 g42 g56 g57 (fun _ _ => by rw [nI_1]; exact kno hne) (fun _ e => absurd rfl e) (fun e => absurd hh e) (fun e => absurd hh e) (fun e => absurd hh e) (fun e => absurd hh e) (fun e => absurd hh e) (fun e => absurd hh e) (fun e => absurd hh e) (fun e => absurd hh e) (fun e => absurd hh e) (fun e => absurd hh e)
              · exact tX8_twice_61 g42 g56 g57 (fun e => absurd e hh) (fun e => absurd e hh) (fun _ _ _ => by rw [nI_1]; exact kno hne) (fun _ _ e => absurd rfl e) (fun _ e => absurd rfl e) (fun _ e => absurd rfl e) (fun _ e => absurd rfl e) (fun _ e => absurd rfl e) (fun _ e => absurd rfl e) (fun _ e => absurd rfl e) (fun _ e => absurd rfl e) (fun _ e => absurd rfl e)
            · rw [i1, i2, nI_eq (by omega) (by omega)] at e
              rw [nI_1]
              refine ih (a + 1) (by omega) (fun a2 ha2 => ?_)
              by_cases hc : a2 = a
              · rw [hc]; exact e
              · exact hq a2 (by omega)
        have mid : ∀ i, i < L → (∀ i2, i2 < i → ∀ j, j < i2 → ¬ wv k v L i2 n = wv k v L j n) → ((∀ j, j < i → ¬ wv k v L i n = wv k v L j n) → V G mX8_twice (b0 2) 36 [some (.ref 42), some (.int (nI t)), some (.int (if true = true then 0 else -3)), some (.int (nI (i + 1)))] [] h Q) → ∀ m j, j + m = i → (∀ j2, j2 < j → ¬ wv k v L i n = wv k v L j2 n) → V G mX8_twice (b0 2) 49 [some (.ref 42), some (.int (nI t)), some (.int (if true = true then 0 else -3)), some (.int (nI i)), some (.int (nI j))] [] h Q := by
          intro i hi hbe kno m
          induction m with
          | zero =>
            intro j hj hq
            refine tX8_twice_49 (fun _ => ?_) (fun e => absurd (nI_le (by omega) (by omega)) e)
            rw [nI_1]
            exact kno (fun j2 hj2 => hq j2 (by omega))
          | succ m ih =>
            intro j hj hq
            refine tX8_twice_49 (fun e => absurd e (nI_ge (by omega) (by omega))) (fun _ => ?_)
            exact inn i j (by omega) hi (fun he => ih (j + 1) (by omega) (fun j2 hj2 => by
                by_cases hc : j2 = j
                · rw [hc]; exact he
                · exact hq j2 (by omega))) (fun he => by
                rw [← hQ]
                exact ⟨⟨_, rfl, Or.inl ⟨i, hi, rfl, ⟨j, by omega, he⟩, hbe⟩⟩, rfl⟩) n 0 (by omega) (fun a2 ha2 => absurd ha2 (Nat.not_lt_zero a2))
        have out : ∀ m i, i + m = L → 1 ≤ i → (∀ i2, i2 < i → ∀ j, j < i2 → ¬ wv k v L i2 n = wv k v L j n) → V G mX8_twice (b0 2) 36 [some (.ref 42), some (.int (nI t)), some (.int (if true = true then 0 else -3)), some (.int (nI i))] [] h Q := by
          intro m
          induction m with
          | zero =>
            intro i hi h1 hbe
            refine tX8_twice_36 g42 g56 (vp_in_nI ht (by decide)) (fun _ => ?_) (fun e => absurd (by rw [ct, hsz]; exact nI_le (by omega) (by omega)) e)
            rw [← hQ]
            exact ⟨⟨_, rfl, Or.inr ⟨rfl, fun i2 hi2 => hbe i2 (by omega)⟩⟩, rfl⟩
          | succ m ih =>
            intro i hi h1 hbe
            refine tX8_twice_36 g42 g56 (vp_in_nI ht (by decide)) (fun e => absurd e (by rw [ct, hsz]; exact nI_ge (by omega) (by omega))) (fun _ => ?_)
            refine mid i (by omega) hbe (fun hno => ih (i + 1) (by omega) (by omega) (fun i2 hi2 j hj => ?_)) i 0 (by omega) (fun j2 hj2 => absurd hj2 (Nat.not_lt_zero j2))
            by_cases hc : i2 = i
            · rw [hc]; rw [hc] at hj; exact hno j hj
            · exact hbe i2 (by omega) j hj
        exact out (L - 1) 1 (by omega) (Nat.le_refl _) (fun i2 hi2 j hj => absurd hj (by omega))
end MT2
