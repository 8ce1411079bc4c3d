/-! RECURRENCE: the reference's least length -/
theorem n202 : (202 : Int32) = nI 202 := by decide +kernel
section RM1
variable {G : gx} {h : ah} {b : bg} {Q : Option Value → ah → Prop} {k t N L i sh eg : Nat} {nx ax sx mx mc mw ml mf mp mg : Int32} {s nw ea : Nat → Nat}
theorem M_inverse {v : Nat} (hp : k = 2 ∨ k = 3 ∨ k = 5) (h1 : 0 < v) (h2 : v < k) (g42 : h 42 = cM (nI k) nx ax sx mx mc mw ml mf mp mg) {d : Nat} : Ct G mX8_inverse d 0 0 [.ref 42, .int (nI v)] h (Rv (.int (nI (iv k v))) h) := by
  obtain ⟨i1, i2, i3, i4⟩ := iv_all hp h1 h2
  have hk : 2 ≤ k ∧ k ≤ 5 := by omega
  have er : ∀ x, x ≤ 5 → nI x * nI v - nI x * nI v / nI k * nI k = nI (x * v % k) := fun x hx => by
    have := mlt hx (show v ≤ 5 by omega)
    rw [pk_mul, rm_e (by omega) hk]
  have lp : ∀ m x, x + m = iv k v → 1 ≤ x → V G mX8_inverse (b0 d) 2 [some (.ref 42), some (.int (nI v)), some (.int (nI x))] [] h (Rv (.int (nI (iv k v))) h) := by
    intro m
    induction m with
    | zero =>
      intro x hx h0
      have e : x = iv k v := by omega
      subst e
      exact tX8_inverse_2 g42 (nI_ne0 (by omega) (by omega)) (fun _ => ⟨rfl, rfl⟩) (fun q => absurd (by rw [er _ (by omega), i3]; exact n1e) q)
    | succ m ih =>
      intro x hx h0
      refine tX8_inverse_2 g42 (nI_ne0 (by omega) (by omega)) (fun q => ?_) (fun _ => ?_)
      · rw [er _ (by omega), ← n1e] at q
        have hm := Nat.mod_lt (x * v) (show 0 < k by omega)
        exact absurd ((nI_eq (by omega) (by omega)).mp q) (i4 x (by omega) h0 (by omega))
      · rw [nI_1]
        exact ih (x + 1) (by omega) (by omega)
  exact Ct_of (by decide +kernel) (Nat.le_of_ble_eq_true rfl) (tX8_inverse_0 (lp (iv k v - 1) 1 (by omega) (Nat.le_refl _)))
/-- what is left at item i -/
theorem ll_75 {na it : Nat → Int32} (hk : 2 ≤ k ∧ k ≤ 5) (ht : t < 4) (hL : L ≤ i) (hi : i < N) (hN : N ≤ 200) (g42 : h 42 = cM (nI k) nx ax sx mx mc mw ml mf mp mg) (g61 : h 61 = aI 202 na) (hna : isA 202 na nw) (hnw : ∀ j, nw j < k) (g57 : h 57 = aI 800 it) (his : ∀ j, j < N → it (200 * t + j) = nI (s j) ∧ s j < k) (k0 : cvs s nw L i % k = 0 → V G mX8_leastLength b 63 [some (.ref 42), some (.int (nI t)), some (.int (nI N)), some (.int (nI L)), some (.int (nI (sh + 1))), some (.int (nI eg)), some (.int (nI (i + 1)))] [] h Q) (k1 : ¬ cvs s nw L i % k = 0 → V G mX8_leastLength b 135 [some (.ref 42), some (.int (nI t)), some (.int (nI N)), some (.int (nI L)), some (.int (nI sh)), some (.int (nI eg)), some (.int (nI i)), some (.int (nI (cvs s nw L i % k))), some (.int (nI 0))] [] h Q) : ∀ m j, j + m = L + 1 → V G mX8_leastLength b 75 [some (.ref 42), some (.int (nI t)), some (.int (nI N)), some (.int (nI L)), some (.int (nI sh)), some (.int (nI eg)), some (.int (nI i)), some (.int (nI (su (fun p => nw p * s (i - p)) j % k))), some (.int (nI j))] [] h Q := by
  intro m
  induction m with
  | zero =>
    intro j hj
    have e : j = L + 1 := by omega
    subst e
    have hc : nI L < nI (L + 1) := nI_lt (by omega) (by omega)
    have hm : cvs s nw L i % k < k := Nat.mod_lt _ (show 0 < k by omega)
    refine tX8_leastLength_75 g42 g61 g57 (fun _ q => ?_) (fun _ q => ?_) (fun q => absurd hc q) (fun q => absurd hc q) (fun q => absurd hc q) (fun q => absurd hc q)
    · exact k1 (fun z => q (by rw [show su (fun p => nw p * s (i - p)) (L + 1) % k = 0 from z]; exact nI_0))
    · rw [nI_1, nI_1]
      exact k0 ((nI_eq (Nat.lt_trans hm (by omega)) (by decide)).mp q)
  | succ m ih =>
    intro j hj
    have hc : ¬ nI L < nI j := nI_nlt (by omega) (by omega)
    have ei : ((200 : Int32) * nI t) + nI i - nI j = nI (200 * t + (i - j)) := by rw [ix_200, pk_sub (by omega), show 200 * t + i - j = 200 * t + (i - j) by omega]
    refine tX8_leastLength_75 g42 g61 g57 (fun q => absurd q hc) (fun q => absurd q hc) (fun _ => vp_in_nI (by omega) (by decide)) (fun _ => by rw [ei]; exact vp_in_nI (by omega) (by decide)) (fun _ => nI_ne0 (by omega) (by omega)) (fun _ => ?_)
    have hb1 := hnw j
    have hb2 := (his (i - j) (by omega)).2
    have hb := mlt (show nw j ≤ 5 by omega) (show s (i - j) ≤ 5 by omega)
    have hm := Nat.mod_lt (su (fun p => nw p * s (i - p)) j) (show 0 < k by omega)
    rw [ei, nI_clamp (n := j) (by omega), nI_clamp (n := 200 * t + (i - j)) (by omega), hna j (by omega), (his (i - j) (by omega)).1, pk_mul, nI_add, rm_e (by omega) hk, Nat.mod_add_mod, nI_1]
    exact ih (j + 1) (by omega)
/-- the one that stands now is kept -/
theorem ll_135 {na : Nat → Int32} {x7 : Int32} (g42 : h 42 = cM (nI k) nx ax sx mx mc mw ml mf mp mg) (g61 : h 61 = aI 202 na) (kk : ∀ f, (∀ q, q < 202 → f q = na q) → V G mX8_leastLength b 168 [some (.ref 42), some (.int (nI t)), some (.int (nI N)), some (.int (nI L)), some (.int (nI sh)), some (.int (nI eg)), some (.int (nI i)), some (.int x7), some (.int (nI 202))] [.int (nI eg), .ref 42, .int x7] (va_up h 63 (aI 202 f)) Q) : ∀ m j f, j + m = 202 → (∀ q, q < j → f q = na q) → V G mX8_leastLength b 135 [some (.ref 42), some (.int (nI t)), some (.int (nI N)), some (.int (nI L)), some (.int (nI sh)), some (.int (nI eg)), some (.int (nI i)), some (.int x7), some (.int (nI j))] [] (va_up h 63 (aI 202 f)) Q := by
  intro m
  induction m with
  | zero =>
    intro j f hj hf
    have e : j = 202 := by omega
    subst e
    have hc : (202 : Int32) ≤ nI 202 := by decide
    exact tX8_leastLength_135 ((up_n _ _ (by decide)).trans g42) ((up_n _ _ (by decide)).trans g61) (up_s _ _ _) (fun _ => kk f hf) (fun q => absurd hc q) (fun q => absurd hc q) (fun q => absurd hc q)
  | succ m ih =>
    intro j f hj hf
    have hc : ¬ (202 : Int32) ≤ nI j := by rw [n202]; exact nI_ge (by omega) (by omega)
    refine tX8_leastLength_135 ((up_n _ _ (by decide)).trans g42) ((up_n _ _ (by decide)).trans g61) (up_s _ _ _) (fun q => absurd q hc) (fun _ => vp_in_nI (by omega) (by decide)) (fun _ => vp_in_nI (by omega) (by decide)) (fun _ => ?_)
    rw [bx_uu, nI_clamp (by omega), nI_1]
    refine ih (j + 1) _ (by omega) (fun q hq => ?_)
    by_cases hqj : q = j
    · rw [hqj, pk_us]
    · rw [pk_un hqj]; exact hf q (by omega)
/-- so many times the earlier one is taken away -/
theorem ll_182 {y : Nat} {ba : Nat → Int32} {x7 : Int32} (hk : 2 ≤ k ∧ k ≤ 5) (hy : y ≤ k) (hsh : sh ≤ 202) (hL : L ≤ 200) (hi : i < 200) (hLi : L ≤ i) (hnw : ∀ j, nw j < k) (g42 : h 42 = cM (nI k) nx ax sx mx mc mw ml mf mp mg) (g62 : h 62 = aI 202 ba) (hba : isA 202 ba ea) (hea : ∀ j, ea j < k) (k0 : ∀ f, isA 202 f (sbt k nw ea y sh) → i < 2 * L → V G mX8_leastLength b 63 [some (.ref 42), some (.int (nI t)), some (.int (nI N)), some (.int (nI L)), some (.int (nI (sh + 1))), some (.int (nI eg)), some (.int (nI (i + 1)))] [] (va_up h 61 (aI 202 f)) Q) (k1 : ∀ f, isA 202 f (sbt k nw ea y sh) → 2 * L ≤ i → V G mX8_leastLength b 258 [some (.ref 42), some (.int (nI t)), some (.int (nI N)), some (.int (nI (i + 1 - L))), some (.int (nI sh)), some (.int (nI eg)), some (.int (nI i)), some (.int x7), some (.int (nI y)), some (.int (nI 0))] [] (va_up h 61 (aI 202 f)) Q) : ∀ m j f, 202 ≤ j + sh + m → j ≤ 202 → (∀ q, q < 202 → f q = nI (if q < j + sh then sbt k nw ea y sh q else nw q)) → V G mX8_leastLength b 182 [some (.ref 42), some (.int (nI t)), some (.int (nI N)), some (.int (nI L)), some (.int (nI sh)), some (.int (nI eg)), some (.int (nI i)), some (.int x7), some (.int (nI y)), some (.int (nI j))] [] (va_up h 61 (aI 202 f)) Q := by
  have e2 : (2 : Int32) * nI L = nI (2 * L) := pk_mul 2 L
  have fin : ∀ j f, 202 ≤ j + sh → j ≤ 202 → (∀ q, q < 202 → f q = nI (if q < j + sh then sbt k nw ea y sh q else nw q)) → V G mX8_leastLength b 182 [some (.ref 42), some (.int (nI t)), some (.int (nI N)), some (.int (nI L)), some (.int (nI sh)), some (.int (nI eg)), some (.int (nI i)), some (.int x7), some (.int (nI y)), some (.int (nI j))] [] (va_up h 61 (aI 202 f)) Q := by
    intro j f h1 hj hf
    have hc : (202 : Int32) ≤ nI j + nI sh := by rw [n202, nI_add]; exact nI_le (by omega) (by omega)
    have hA : isA 202 f (sbt k nw ea y sh) := fun q hq => by rw [hf q hq, if_pos (by omega)]
    refine tX8_leastLength_182 ((up_n _ _ (by decide)).trans g42) (up_s _ _ _) ((up_n _ _ (by decide)).trans g62) (fun _ z => ?_) (fun _ z => ?_) (fun q => absurd hc q) (fun q => absurd hc q) (fun q => absurd hc q) (fun q => absurd hc q) (fun q => absurd hc q)
    · rw [e2] at z
      rw [nI_1, nI_1]
      exact k0 f hA ((nI_ltI (by omega) (by omega)).mp z)
    · rw [e2] at z
      have hl : 2 * L ≤ i := Nat.le_of_not_lt (fun y => z ((nI_ltI (by omega) (by omega)).mpr y))
      rw [nI_1, pk_sub (show L ≤ i + 1 by omega)]
      exact k1 f hA hl
  intro m
  induction m with
  | zero =>
    intro j f h1 hj hf
    exact fin j f (by omega) hj hf
  | succ m ih =>
    intro j f h1 hj hf
    by_cases hcc : 202 ≤ j + sh
    · exact fin j f hcc hj hf
    · have e : nI j + nI sh = nI (j + sh) := nI_add _ _
      have hc : ¬ (202 : Int32) ≤ nI j + nI sh := by rw [n202, e]; exact nI_ge (by omega) (by omega)
      have hv : vp_in (nI j + nI sh) 202 := by rw [e]; exact vp_in_nI (by omega) (by decide)
      refine tX8_leastLength_182 ((up_n _ _ (by decide)).trans g42) (up_s _ _ _) ((up_n _ _ (by decide)).trans g62) (fun q => absurd q hc) (fun q => absurd q hc) (fun _ => hv) (fun _ => vp_in_nI (by omega) (by decide)) (fun _ => nI_ne0 (by omega) (by omega)) (fun _ => hv) (fun _ => ?_)
      have hb := mlt (show k - y ≤ 5 by omega) (show ea j ≤ 5 by have := hea j; omega)
      have hb2 := hnw (j + sh)
      rw [bx_uu, e, nI_clamp (n := j + sh) (by omega), nI_clamp (n := j) (by omega), hf (j + sh) (by omega), if_neg (by omega), hba j (by omega), pk_sub hy, pk_mul, nI_add, rm_e (by omega) hk, nI_1]
      refine ih (j + 1) _ (by omega) (by omega) (fun q hq => ?_)
      by_cases hj2 : q = j + sh
      · subst hj2
        rw [pk_us, if_pos (by omega)]
        unfold sbt
        rw [if_pos (by omega), Nat.add_sub_cancel]
      · rw [pk_un hj2, hf q hq]
        by_cases hq2 : q < j + sh
        · rw [if_pos hq2, if_pos (by omega)]
        · rw [if_neg hq2, if_neg (by omega)]
/-- the kept one becomes the earlier one -/
theorem ll_258 {kt : Nat → Int32} {x8 : Int32} {d : Nat} (g42 : h 42 = cM (nI k) nx ax sx mx mc mw ml mf mp mg) (g63 : h 63 = aI 202 kt) (kk : ∀ f, (∀ q, q < 202 → f q = kt q) → V G mX8_leastLength b 63 [some (.ref 42), some (.int (nI t)), some (.int (nI N)), some (.int (nI L)), some (.int (nI 1)), some (.int (nI d)), some (.int (nI (i + 1)))] [] (va_up h 62 (aI 202 f)) Q) : ∀ m j f, j + m = 202 → (∀ q, q < j → f q = kt q) → V G mX8_leastLength b 258 [some (.ref 42), some (.int (nI t)), some (.int (nI N)), some (.int (nI L)), some (.int (nI sh)), some (.int (nI eg)), some (.int (nI i)), some (.int (nI d)), some (.int x8), some (.int (nI j))] [] (va_up h 62 (aI 202 f)) Q := by
  intro m
  induction m with
  | zero =>
    intro j f hj hf
    have e : j = 202 := by omega
    subst e
    have hc : (202 : Int32) ≤ nI 202 := by decide
    refine tX8_leastLength_258 ((up_n _ _ (by decide)).trans g42) ((up_n _ _ (by decide)).trans g63) (up_s _ _ _) (fun _ => ?_) (fun q => absurd hc q) (fun q => absurd hc q) (fun q => absurd hc q)
    rw [nI_1]
    exact kk f hf
  | succ m ih =>
    intro j f hj hf
    have hc : ¬ (202 : Int32) ≤ nI j := by rw [n202]; exact nI_ge (by omega) (by omega)
    refine tX8_leastLength_258 ((up_n _ _ (by decide)).trans g42) ((up_n _ _ (by decide)).trans g63) (up_s _ _ _) (fun q => absurd q hc) (fun _ => vp_in_nI (by omega) (by decide)) (fun _ => vp_in_nI (by omega) (by decide)) (fun _ => ?_)
    rw [bx_uu, nI_clamp (by omega), nI_1]
    refine ih (j + 1) _ (by omega) (fun q hq => ?_)
    by_cases hqj : q = j
    · rw [hqj, pk_us]
    · rw [pk_un hqj]; exact hf q (by omega)
theorem M_leastLength {it sz n1 n2 n3 : Nat → Int32} (hp : k = 2 ∨ k = 3 ∨ k = 5) (ht : t < 4) (hN : N ≤ 200) (hsz : sz t = nI N) (g42 : h 42 = cM (nI k) nx ax sx mx mc mw ml mf mp mg) (g56 : h 56 = aI 4 sz) (g57 : h 57 = aI 800 it) (g61 : h 61 = aI 202 n1) (g62 : h 62 = aI 202 n2) (g63 : h 63 = aI 202 n3) (his : ∀ j, j < N → it (200 * t + j) = nI (s j) ∧ s j < k) : Ct G mX8_leastLength 1 0 0 [.ref 42, .int (nI t)] h (fun r h2 => r = some (.int (nI (bm k s N).2.2.1)) ∧ (∃ f, h2 61 = aI 202 f) ∧ (∃ f, h2 62 = aI 202 f) ∧ (∃ f, h2 63 = aI 202 f) ∧ Fr [61, 62, 63] h h2) := by
  have hk : 2 ≤ k ∧ k ≤ 5 := by omega
  generalize hQ : (fun (r : Option Value) (h2 : ah) => r = some (.int (nI (bm k s N).2.2.1)) ∧ (∃ f, h2 61 = aI 202 f) ∧ (∃ f, h2 62 = aI 202 f) ∧ (∃ f, h2 63 = aI 202 f) ∧ Fr [61, 62, 63] h h2) = Q
  have lp : ∀ m i (nw ea : Nat → Nat) (L eg sh : Nat) (f1 f2 f3 : Nat → Int32) (hh : ah), i + m = N → bm k s i = (nw, ea, L, eg, sh) → hh 61 = aI 202 f1 → isA 202 f1 nw → hh 62 = aI 202 f2 → isA 202 f2 ea → hh 63 = aI 202 f3 → Fr [61, 62, 63] h hh → V G mX8_leastLength (b0 1) 63 [some (.ref 42), some (.int (nI t)), some (.int (nI N)), some (.int (nI L)), some (.int (nI sh)), some (.int (nI eg)), some (.int (nI i))] [] hh Q := by
    intro m
    induction m with
    | zero =>
      intro i nw ea L eg sh f1 f2 f3 hh hi hb k61 q61 k62 q62 k63 kf
      have e : i = N := by omega
      subst e
      refine tX8_leastLength_63 (fun _ => ?_) (fun q => absurd (nI_le (Nat.le_refl _) (by omega)) q)
      rw [← hQ, hb]
      exact ⟨rfl, ⟨f1, k61⟩, ⟨f2, k62⟩, ⟨f3, k63⟩, kf⟩
    | succ m ih =>
      intro i nw ea L eg sh f1 f2 f3 hh hi hb k61 q61 k62 q62 k63 kf
      obtain ⟨b1, b2, b3, b4, b5, b6, b7⟩ := bm_fa hp hb
      have k42 := (kf 42 (by decide)).trans g42
      have k57 := (kf 57 (by decide)).trans g57
      have hdl := Nat.mod_lt (cvs s nw L i) (show 0 < k by omega)
      refine tX8_leastLength_63 (fun q => absurd q (nI_ge (by omega) (by omega))) (fun _ => ?_)
      have hgo := ll_75 (G := G) (b := b0 1) (Q := Q) (h := hh) (L := L) (i := i) (N := N) (sh := sh) (eg := eg) (s := s) (nw := nw) hk ht b1 (by omega) hN k42 k61 q61 b4 k57 his (fun hd => ih (i + 1) nw ea L eg (sh + 1) f1 f2 f3 hh (by omega) (bm_z hb hd) k61 q61 k62 q62 k63 kf) (fun hd => ?_) (L + 1) 0 (by omega)
      · rw [show su (fun p => nw p * s (i - p)) 0 % k = 0 from Nat.zero_mod k] at hgo
        exact hgo
      · have h63 : va_up hh 63 (aI 202 f3) = hh := up_id k63
        have hcp := ll_135 (G := G) (b := b0 1) (Q := Q) (h := hh) (L := L) (i := i) (N := N) (t := t) (sh := sh) (eg := eg) (x7 := nI (cvs s nw L i % k)) k42 k61 (fun f hf => ?_) 202 0 f3 (by omega) (fun q hq => by omega)
        · rw [h63] at hcp
          exact hcp
        · have hfA : isA 202 f nw := fun q hq => by rw [hf q hq]; exact q61 q hq
          have j42 : va_up hh 63 (aI 202 f) 42 = cM (nI k) nx ax sx mx mc mw ml mf mp mg := (up_n _ _ (by decide)).trans k42
          refine cX8_leastLength_168 (k := 40) (M_inverse hp b6 b7 j42 (d := 0)) j42 ⟨by decide, by decide⟩ (Nat.le_of_ble_eq_true rfl) ⟨Nat.le_refl _, Nat.le_refl _⟩ (fun r h3 e => ?_)
          obtain ⟨rfl, rfl⟩ := e
          have hiv := (iv_all hp b6 b7).2.1
          have hml := mlt (show cvs s nw L i % k ≤ 5 by omega) (show iv k eg ≤ 5 by omega)
          have hyl := Nat.mod_lt (cvs s nw L i % k * iv k eg) (show 0 < k by omega)
          refine tX8_leastLength_171 j42 (nI_ne0 (by omega) (by omega)) ?_
          rw [pk_mul, rm_e (by omega) hk]
          generalize hh1 : va_up hh 63 (aI 202 f) = h1
          rw [hh1] at j42
          have j61 : h1 61 = aI 202 f1 := by rw [← hh1]; exact (up_n _ _ (by decide)).trans k61
          have j62 : h1 62 = aI 202 f2 := by rw [← hh1]; exact (up_n _ _ (by decide)).trans k62
          have j63 : h1 63 = aI 202 f := by rw [← hh1]; exact up_s _ _ _
          have jf : Fr [61, 62, 63] h h1 := by rw [← hh1]; exact kf.up (by decide)
          have h61 : va_up h1 61 (aI 202 f1) = h1 := up_id j61
          have hsb := ll_182 (G := G) (b := b0 1) (Q := Q) (h := h1) (L := L) (i := i) (N := N) (t := t) (sh := sh) (eg := eg) (x7 := nI (cvs s nw L i % k)) (y := cvs s nw L i % k * iv k eg % k) (nw := nw) (ea := ea) hk (by omega) (by omega) (by omega) (by omega) b1 b4 j42 j62 q62 b5 (fun g hg hl => ?_) (fun g hg hl => ?_) 202 0 f1 (by omega) (by omega) (fun q hq => ?_)
          · rw [h61] at hsb
            exact hsb
          · exact ih (i + 1) _ ea L eg (sh + 1) g f2 f _ (by omega) (bm_s hb (by assumption) (by omega)) (up_s _ _ _) hg ((up_n _ _ (by decide)).trans j62) q62 ((up_n _ _ (by decide)).trans j63) (jf.up (by decide))
          · generalize hh2 : va_up h1 61 (aI 202 g) = h2
            have l42 : h2 42 = cM (nI k) nx ax sx mx mc mw ml mf mp mg := by rw [← hh2]; exact (up_n _ _ (by decide)).trans j42
            have l61 : h2 61 = aI 202 g := by rw [← hh2]; exact up_s _ _ _
            have l62 : h2 62 = aI 202 f2 := by rw [← hh2]; exact (up_n _ _ (by decide)).trans j62
            have l63 : h2 63 = aI 202 f := by rw [← hh2]; exact (up_n _ _ (by decide)).trans j63
            have lf : Fr [61, 62, 63] h h2 := by rw [← hh2]; exact jf.up (by decide)
            have h62 : va_up h2 62 (aI 202 f2) = h2 := up_id l62
            have hcb := ll_258 (G := G) (b := b0 1) (Q := Q) (h := h2) (L := i + 1 - L) (i := i) (N := N) (t := t) (sh := sh) (eg := eg) (d := cvs s nw L i % k) (x8 := nI (cvs s nw L i % k * iv k eg % k)) l42 l63 (fun g2 hg2 => ?_) 202 0 f2 (by omega) (fun q hq => by omega)
            · rw [h62] at hcb
              exact hcb
            · exact ih (i + 1) _ nw (i + 1 - L) (cvs s nw L i % k) 1 g g2 f _ (by omega) (bm_l hb (by assumption) hl) ((up_n _ _ (by decide)).trans l61) hg (up_s _ _ _) (fun q hq => by rw [hg2 q hq]; exact hfA q hq) ((up_n _ _ (by decide)).trans l63) (lf.up (by decide))
          · rw [q61 q hq]
            split
            · unfold sbt
              rw [if_neg (by omega)]
            · rfl
  have ini : ∀ m i (f1 f2 : Nat → Int32) (hh : ah), i + m = 202 → hh 61 = aI 202 f1 → (∀ q, q < i → f1 q = nI (ez q)) → hh 62 = aI 202 f2 → (∀ q, q < i → f2 q = nI (ez q)) → Fr [61, 62] h hh → V G mX8_leastLength (b0 1) 9 [some (.ref 42), some (.int (nI t)), some (.int (nI N)), some (.int (nI i))] [] hh Q := by
    intro m
    induction m with
    | zero =>
      intro i f1 f2 hh hi k61 q61 k62 q62 kf
      have e : i = 202 := by omega
      subst e
      have hc : (202 : Int32) ≤ nI 202 := by decide
      exact tX8_leastLength_9 ((kf 42 (by decide)).trans g42) k61 k62 (fun _ => lp N 0 ez ez 0 1 1 f1 f2 n3 hh (by omega) rfl k61 q61 k62 q62 ((kf 63 (by decide)).trans g63) (kf.mono (by decide))) (fun q => absurd hc q) (fun q => absurd hc q) (fun q => absurd hc q) (fun q => absurd hc q) (fun q => absurd hc q) (fun q => absurd hc q) (fun q => absurd hc q) (fun q => absurd hc q) (fun q => absurd hc q) (fun q => absurd hc q)
    | succ m ih =>
      intro i f1 f2 hh hi k61 q61 k62 q62 kf
      have hc : ¬ (202 : Int32) ≤ nI i := by rw [n202]; exact nI_ge (by omega) (by omega)
      have hv : vp_in (nI i) 202 := vp_in_nI (by omega) (by decide)
      have st : ∀ (f : Nat → Int32) (v : Int32), (∀ q, q < i → f q = nI (ez q)) → v = nI (ez i) → ∀ q, q < i + 1 → upd f (nI i).toNatClampNeg v q = nI (ez q) := fun f v hf hv q hq => by
        rw [nI_clamp (by omega)]
        by_cases hqi : q = i
        · rw [hqi, pk_us]; exact hv
        · rw [pk_un hqi]; exact hf q (by omega)
      by_cases h0 : i = 0
      · have hz : nI i = 0 := by rw [h0]; exact nI_0
        have he : (1 : Int32) = nI (ez i) := by rw [h0]; exact n1e.symm
        refine tX8_leastLength_9 ((kf 42 (by decide)).trans g42) k61 k62 (fun q => absurd q hc) (fun _ q => absurd hz q) (fun _ q => absurd hz q) (fun _ q => absurd hz q) (fun _ q => absurd hz q) (fun _ q => absurd hz q) (fun _ _ => hv) (fun _ _ q => absurd hz q) (fun _ _ q => absurd hz q) (fun _ _ _ => hv) (fun _ _ _ => ?_)
        rw [nI_1]
        exact ih (i + 1) _ _ _ (by omega) ((up_n _ _ (by decide)).trans (up_s _ _ _)) (st f1 1 q61 he) (up_s _ _ _) (st f2 1 q62 he) ((kf.up (by decide)).up (by decide))
      · have hz : ¬ nI i = 0 := nI_ne0 (by omega) (by omega)
        have he : (0 : Int32) = nI (ez i) := by rw [show ez i = 0 from if_neg h0]; exact nI_0.symm
        refine tX8_leastLength_9 ((kf 42 (by decide)).trans g42) k61 k62 (fun q => absurd q hc) (fun _ _ => hv) (fun _ _ _ => hv) (fun _ _ _ => ?_) (fun _ _ q => absurd q hz) (fun _ _ q => absurd q hz) (fun _ q => absurd q hz) (fun _ q => absurd q hz) (fun _ q => absurd q hz) (fun _ q => absurd q hz) (fun _ q => absurd q hz)
        rw [nI_1]
        exact ih (i + 1) _ _ _ (by omega) ((up_n _ _ (by decide)).trans (up_s _ _ _)) (st f1 0 q61 he) (up_s _ _ _) (st f2 0 q62 he) ((kf.up (by decide)).up (by decide))
  have ct : (nI t).toNatClampNeg = t := nI_clamp (by omega)
  refine Ct_of (by decide +kernel) (Nat.le_of_ble_eq_true rfl) (tX8_leastLength_0 g42 g56 (vp_in_nI ht (by decide)) ?_)
  rw [ct, hsz]
  exact ini 202 0 n1 n2 h (by omega) g61 (fun q hq => by omega) g62 (fun q hq => by omega) Fr.rf
end RM1
