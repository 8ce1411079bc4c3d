/-! RECURRENCE: the class's contracts -/
theorem n1e : nI 1 = 1 := by decide +kernel
theorem mlt {a b : Nat} (ha : a ≤ 5) (hb : b ≤ 5) : a * b ≤ 25 := Nat.mul_le_mul ha hb
theorem iv_all {k v : Nat} (h : k = 2 ∨ k = 3 ∨ k = 5) (h1 : 0 < v) (h2 : v < k) : 1 ≤ iv k v ∧ iv k v < k ∧ iv k v * v % k = 1 ∧ ∀ y, y < k → 1 ≤ y → y < iv k v → ¬ y * v % k = 1 := by
  have key : ∀ y, y < k → v = 0 ∨ (1 ≤ iv k v ∧ iv k v < k ∧ iv k v * v % k = 1 ∧ (y = 0 ∨ iv k v ≤ y ∨ ¬ y * v % k = 1)) := by
    intro y hy
    rcases h with rfl | rfl | rfl
    · exact (show ∀ v, v < 2 → ∀ y, y < 2 → v = 0 ∨ (1 ≤ iv 2 v ∧ iv 2 v < 2 ∧ iv 2 v * v % 2 = 1 ∧ (y = 0 ∨ iv 2 v ≤ y ∨ ¬ y * v % 2 = 1)) by decide +kernel) v h2 y hy
    · exact (show ∀ v, v < 3 → ∀ y, y < 3 → v = 0 ∨ (1 ≤ iv 3 v ∧ iv 3 v < 3 ∧ iv 3 v * v % 3 = 1 ∧ (y = 0 ∨ iv 3 v ≤ y ∨ ¬ y * v % 3 = 1)) by decide +kernel) v h2 y hy
    · exact (show ∀ v, v < 5 → ∀ y, y < 5 → v = 0 ∨ (1 ≤ iv 5 v ∧ iv 5 v < 5 ∧ iv 5 v * v % 5 = 1 ∧ (y = 0 ∨ iv 5 v ≤ y ∨ ¬ y * v % 5 = 1)) by decide +kernel) v h2 y hy
  have key2 := fun y hy => (key y hy).resolve_left (by omega)
  obtain ⟨a1, a2, a3, -⟩ := key2 0 (by omega)
  exact ⟨a1, a2, a3, fun y hy q1 q2 => ((key2 y hy).2.2.2.resolve_left (by omega)).resolve_left (by omega)⟩
theorem su_bd {F : Nat → Nat} {B : Nat} : ∀ q, (∀ i, i < q → F i ≤ B) → su F q ≤ B * q
  | 0, _ => Nat.zero_le _
  | q + 1, h => by
    show su F q + F q ≤ B * (q + 1)
    have h1 := su_bd q (fun i hi => h i (by omega))
    have h2 := h q (by omega)
    rw [Nat.mul_succ]
    omega
abbrev cC (L k : Nat) : ce := (1, .inl [.ref 39, .ref 40, .ref 41, .int (nI L), .int (nI k)])
def isA (N : Nat) (f : Nat → Int32) (x : Nat → Nat) : Prop := ∀ j, j < N → f j = nI (x j)
/-- the recurrence's rem -/
theorem rm_e {a k : Nat} (ha : a < 2 ^ 31) (hk : 2 ≤ k ∧ k ≤ 5) : nI a - nI a / nI k * nI k = nI (a % k) := pk_rem ha (by omega) (by omega)
theorem lw_c {sh L N i : Nat} (h1 : sh ≤ 1000) (h2 : L ≤ 1000) (h3 : N ≤ 1000) (h4 : i ≤ 1000) : (nI sh + (nI (2 * L) - nI N) ≤ nI i) ↔ sh + 2 * L ≤ N + i := by
  have e : nI sh + (nI (2 * L) - nI N) = nI (sh + 2 * L) - nI N := by
    rw [← nI_add, Int32.sub_eq_add_neg, Int32.sub_eq_add_neg, Int32.add_assoc]
  rw [e, Int32.le_iff_toInt_le, pk_sub_toInt (by omega) (by omega), nI_toInt (by omega)]
  omega
section RX
variable {G : gx} {h : ah} {k L : Nat} {nw ea : Nat → Nat} {na ra : Nat → Int32}
theorem C_inverse {v : Nat} (hp : k = 2 ∨ k = 3 ∨ k = 5) (h1 : 0 < v) (h2 : v < k) (g38 : h 38 = cC L k) {d : Nat} : Ct G mX1_inverse d 0 0 [.ref 38, .int (nI v)] h (Rv (.int (nI (iv k v))) h) := by
  obtain ⟨i1, i2, i3, i4⟩ := iv_all hp h1 h2
  have hk : 2 ≤ k ∧ k ≤ 5 := by omega
  have er : ∀ x, x ≤ 5 → nI x * nI v - nI x * nI v / nI k * nI k = nI (x * v % k) := fun x hx => by
    have := mlt hx (show v ≤ 5 by omega)
    rw [pk_mul, rm_e (by omega) hk]
  have lp : ∀ m x, x + m = iv k v → 1 ≤ x → V G mX1_inverse (b0 d) 2 [some (.ref 38), some (.int (nI v)), some (.int (nI x))] [] h (Rv (.int (nI (iv k v))) h) := by
    intro m
    induction m with
    | zero =>
      intro x hx h0
      have e : x = iv k v := by omega
      subst e
      exact tX1_inverse_2 g38 (fun q => absurd q (nI_ge i2 (by omega))) (fun _ => nI_ne0 (by omega) (by omega)) (fun _ _ => ⟨rfl, rfl⟩) (fun _ q => absurd (by rw [er _ (by omega), i3]; exact n1e) q)
    | succ m ih =>
      intro x hx h0
      refine tX1_inverse_2 g38 (fun q => absurd q (nI_ge (by omega) (by omega))) (fun _ => nI_ne0 (by omega) (by omega)) (fun _ q => ?_) (fun _ _ => ?_)
      · rw [er _ (by omega), ← n1e] at q
        have hm := Nat.mod_lt (x * v) (show 0 < k by omega)
        exact absurd ((nI_eq (by omega) (by omega)).mp q) (i4 x (by omega) h0 (by omega))
      · rw [nI_1]
        exact ih (x + 1) (by omega) (by omega)
  exact Ct_of (by decide +kernel) (Nat.le_of_ble_eq_true rfl) (tX1_inverse_0 (lp (iv k v - 1) 1 (by omega) (Nat.le_refl _)))
theorem C_gapAt {p N i : Nat} {s : Nat → Nat} {it : Nat → Int32} (hk : 2 ≤ k ∧ k ≤ 5) (hL : L ≤ i) (hi : i < N) (hN : N ≤ 200) (g38 : h 38 = cC L k) (g39 : h 39 = aI 201 na) (hna : isA 201 na nw) (hnw : ∀ j, nw j < k) (gi : h (p + 2) = aI 200 it) (his : ∀ j, j < N → it j = nI (s j) ∧ s j < k) {d : Nat} : Ct G mX1_gapAt d 0 0 [.ref 38, .ref (p + 2), .int (nI i)] h (Rv (.int (nI (cvs s nw L i % k))) h) := by
  have hb : ∀ q, q ≤ L + 1 → su (fun p => nw p * s (i - p)) q ≤ 25 * q := fun q hq => su_bd q (fun j hj => mlt (by have := hnw j; omega) (by have := (his (i - j) (by omega)).2; omega))
  have lp : ∀ m j, j + m = L + 1 → V G mX1_gapAt (b0 d) 5 [some (.ref 38), some (.ref (p + 2)), some (.int (nI i)), some (.int (nI (su (fun p => nw p * s (i - p)) j))), some (.int (nI j))] [] h (Rv (.int (nI (cvs s nw L i % k))) h) := by
    intro m
    induction m with
    | zero =>
      intro j hj
      have e : j = L + 1 := by omega
      subst e
      have hbb := hb (L + 1) (Nat.le_refl _)
      refine tX1_gapAt_5 g38 g39 gi (fun _ => nI_ne0 (by omega) (by omega)) (fun _ => ⟨?_, rfl⟩) (fun q => absurd (nI_lt (by omega) (by omega)) q) (fun q => absurd (nI_lt (by omega) (by omega)) q) (fun q => absurd (nI_lt (by omega) (by omega)) q)
      rw [rm_e (by omega) hk]
      rfl
    | succ m ih =>
      intro j hj
      refine tX1_gapAt_5 g38 g39 gi (fun q => absurd q (nI_nlt (by omega) (by omega))) (fun q => absurd q (nI_nlt (by omega) (by omega))) (fun _ => vp_in_nI (by omega) (by decide)) (fun _ => by rw [pk_sub (by omega)]; exact vp_in_nI (by omega) (by decide)) (fun _ => ?_)
      rw [pk_sub (by omega), nI_clamp (n := j) (by omega), nI_clamp (n := i - j) (by omega), hna j (by omega), (his (i - j) (by omega)).1, pk_mul, nI_add, nI_1]
      exact ih (j + 1) (by omega)
  exact Ct_of (by decide +kernel) (Nat.le_of_ble_eq_true rfl) (tX1_gapAt_0 (lp (L + 1) 0 (by omega)))
theorem C_subtract {y sh : Nat} (hk : 2 ≤ k ∧ k ≤ 5) (hy : y ≤ k) (hsh : sh ≤ 201) (g38 : h 38 = cC L k) (g39 : h 39 = aI 201 na) (hna : isA 201 na nw) (hnw : ∀ j, nw j < k) (g40 : h 40 = aI 201 ra) (hra : isA 201 ra ea) (hea : ∀ j, ea j < k) {d : Nat} : Ct G mX1_subtractEarlier d 0 0 [.ref 38, .int (nI y), .int (nI sh)] h (fun r h2 => r = none ∧ (∃ f2, h2 39 = aI 201 f2 ∧ isA 201 f2 (sbt k nw ea y sh)) ∧ Fr [39] h h2) := by
  generalize hQ : (fun (r : Option Value) (h2 : ah) => r = none ∧ (∃ f2, h2 39 = aI 201 f2 ∧ isA 201 f2 (sbt k nw ea y sh)) ∧ Fr [39] h h2) = Q
  have lp : ∀ m j (f : Nat → Int32) (hh : ah), 201 ≤ j + sh + m → j ≤ 201 → hh 39 = aI 201 f → (∀ q, q < 201 → f q = nI (if q < j + sh then sbt k nw ea y sh q else nw q)) → Fr [39] h hh → V G mX1_subtractEarlier (b0 d) 2 [some (.ref 38), some (.int (nI y)), some (.int (nI sh)), some (.int (nI j))] [] hh Q := by
    have fin : ∀ j (f : Nat → Int32) (hh : ah), 201 ≤ j + sh → hh 39 = aI 201 f → (∀ q, q < 201 → f q = nI (if q < j + sh then sbt k nw ea y sh q else nw q)) → Fr [39] h hh → Q none hh := by
      intro j f hh h1 k39 kq kf
      rw [← hQ]
      exact ⟨rfl, ⟨f, k39, fun q hq => by rw [kq q hq, if_pos (by omega)]⟩, kf⟩
    intro m
    induction m with
    | zero =>
      intro j f hh h1 hj k39 kq kf
      have e : nI j + nI sh = nI (j + sh) := nI_add _ _
      have hc : nI 201 ≤ nI j + nI sh := by rw [e]; exact nI_le (by omega) (by omega)
      exact tX1_subtractEarlier_2 ((kf 38 (by decide)).trans g38) k39 ((kf 40 (by decide)).trans g40) (fun _ => fin j f hh (by omega) k39 kq kf) (fun q => absurd hc q) (fun q => absurd hc q) (fun q => absurd hc q) (fun q => absurd hc q) (fun q => absurd hc q)
    | succ m ih =>
      intro j f hh h1 hj k39 kq kf
      have e : nI j + nI sh = nI (j + sh) := nI_add _ _
      by_cases hcc : 201 ≤ j + sh
      · have hc : nI 201 ≤ nI j + nI sh := by rw [e]; exact nI_le (by omega) (by omega)
        exact tX1_subtractEarlier_2 ((kf 38 (by decide)).trans g38) k39 ((kf 40 (by decide)).trans g40) (fun _ => fin j f hh hcc k39 kq kf) (fun q => absurd hc q) (fun q => absurd hc q) (fun q => absurd hc q) (fun q => absurd hc q) (fun q => absurd hc q)
      · have hc : ¬ nI 201 ≤ nI j + nI sh := by rw [e]; exact nI_ge (by omega) (by omega)
        have hv : vp_in (nI j + nI sh) 201 := by rw [e]; exact vp_in_nI (by omega) (by decide)
        refine tX1_subtractEarlier_2 ((kf 38 (by decide)).trans g38) k39 ((kf 40 (by decide)).trans g40) (fun q => absurd q hc) (fun _ => hv) (fun _ => vp_in_nI (by omega) (by decide)) (fun _ => nI_ne0 (by omega) (by omega)) (fun _ => hv) (fun _ => ?_)
        have hb := mlt (show k - y ≤ 5 by omega) (show ea j ≤ 5 by have := hea j; omega)
        have hb2 := hnw (j + sh)
        rw [e, nI_clamp (n := j + sh) (by omega), nI_clamp (n := j) (by omega), kq (j + sh) (by omega), if_neg (by omega), hra j (by omega), pk_sub hy, pk_mul, nI_add, rm_e (by omega) hk, nI_1]
        refine ih (j + 1) _ _ (by omega) (by omega) (up_s _ _ _) (fun q hq => ?_) (kf.up (by decide))
        by_cases hj2 : q = j + sh
        · subst hj2
          rw [pk_us, if_pos (by omega)]
          unfold sbt
          rw [if_pos (by omega), Nat.add_sub_cancel]
        · rw [pk_un hj2, kq q hq]
          by_cases hq2 : q < j + sh
          · rw [if_pos hq2, if_pos (by omega)]
          · rw [if_neg hq2, if_neg (by omega)]
  refine Ct_of (by decide +kernel) (Nat.le_of_ble_eq_true rfl) (tX1_subtractEarlier_0 (lp 201 0 na h (by omega) (by omega) g39 (fun q hq => ?_) Fr.rf))
  rw [hna q hq]
  split
  · unfold sbt
    rw [if_neg (by omega)]
  · rfl
theorem C_lengthen {y sh L3 : Nat} {sp : Nat → Int32} (hk : 2 ≤ k ∧ k ≤ 5) (hy : y ≤ k) (hsh : sh ≤ 201) (g38 : h 38 = cC L k) (g39 : h 39 = aI 201 na) (hna : isA 201 na nw) (hnw : ∀ j, nw j < k) (g40 : h 40 = aI 201 ra) (hra : isA 201 ra ea) (hea : ∀ j, ea j < k) (g41 : h 41 = aI 201 sp) : Ct G mX1_lengthen 1 0 0 [.ref 38, .int (nI y), .int (nI sh), .int (nI L3)] h (fun r h2 => r = none ∧ h2 38 = cC L3 k ∧ (∃ f2, h2 39 = aI 201 f2 ∧ isA 201 f2 (sbt k nw ea y sh)) ∧ (∃ f3, h2 40 = aI 201 f3 ∧ isA 201 f3 nw) ∧ (∃ f4, h2 41 = aI 201 f4) ∧ Fr [38, 39, 40, 41] h h2) := by
  refine Ct_of (by decide +kernel) (Nat.le_of_ble_eq_true rfl) (tX1_lengthen_0 g38 g39 ?_)
  refine V_acpy (k0 := 37) (k1 := 39) (n0 := 201) (n1 := 201) dX1_lengthen_15 km_X1_53 kn_acpy kt_acpy kj_sys g39 g41 (by decide) (by decide) (nI_pos (by decide)) (by decide) (by decide) ⟨by decide, by decide⟩ rfl ?_
  generalize hcp : va_cpy na sp (0 : Int32).toNatClampNeg (0 : Int32).toNatClampNeg (nI 201).toNatClampNeg = cp
  have hcp2 : isA 201 cp nw := fun j hj => by
    rw [← hcp, show (0 : Int32).toNatClampNeg = 0 by decide, nI_clamp (by decide), pk_cpy_in (Nat.zero_le _) (by omega), Nat.zero_add, Nat.sub_zero]
    exact hna j hj
  refine tX1_lengthen_18 ?_
  refine cX1_lengthen_21 (k := 36) (C_subtract (h := va_up h 41 (aI 201 cp)) hk hy hsh ((up_n _ _ (by decide)).trans g38) ((up_n _ _ (by decide)).trans g39) hna hnw ((up_n _ _ (by decide)).trans g40) hra hea (d := 0)) ((up_n _ _ (by decide)).trans g38) ⟨by decide, by decide⟩ (Nat.le_of_ble_eq_true rfl) ⟨Nat.le_refl _, Nat.le_refl _⟩ (fun r h2 e => ?_)
  obtain ⟨rfl, ⟨f2, b39, hf2⟩, bf⟩ := e
  have b38 : h2 38 = cC L k := (bf 38 (by decide)).trans ((up_n _ _ (by decide)).trans g38)
  have b41 : h2 41 = aI 201 cp := (bf 41 (by decide)).trans (up_s _ _ _)
  have b40 : h2 40 = aI 201 ra := (bf 40 (by decide)).trans ((up_n _ _ (by decide)).trans g40)
  have bf2 : Fr [38, 39, 40, 41] h h2 := Fr.tr (Fr.rf.up (by decide)) bf (by decide)
  refine tX1_lengthen_24 b38 b41 ?_
  refine V_acpy (k0 := 39) (k1 := 38) (n0 := 201) (n1 := 201) dX1_lengthen_39 km_X1_53 kn_acpy kt_acpy kj_sys b41 b40 (by decide) (by decide) (nI_pos (by decide)) (by decide) (by decide) ⟨by decide, by decide⟩ rfl ?_
  generalize hcq : va_cpy cp ra (0 : Int32).toNatClampNeg (0 : Int32).toNatClampNeg (nI 201).toNatClampNeg = cq
  have hcq2 : isA 201 cq nw := fun j hj => by
    rw [← hcq, show (0 : Int32).toNatClampNeg = 0 by decide, nI_clamp (by decide), pk_cpy_in (Nat.zero_le _) (by omega), Nat.zero_add, Nat.sub_zero]
    exact hcp2 j hj
  refine tX1_lengthen_42 ((up_n _ _ (by decide)).trans b38) ?_
  refine ⟨rfl, up_s _ _ _, ⟨f2, (up_n _ _ (by decide)).trans ((up_n _ _ (by decide)).trans b39), hf2⟩, ⟨cq, (up_n _ _ (by decide)).trans (up_s _ _ _), hcq2⟩, ⟨cp, (up_n _ _ (by decide)).trans ((up_n _ _ (by decide)).trans b41)⟩, (bf2.up (by decide)).up (by decide)⟩
theorem C_lowerN {N sh : Nat} (hk : 2 ≤ k ∧ k ≤ 5) (hL : L ≤ 200) (hN : N ≤ 200) (hE : sh + (2 * L - N) ≤ 201) (g38 : h 38 = cC L k) (g39 : h 39 = aI 201 na) (hna : isA 201 na nw) (hnw : ∀ j, nw j < k) (g40 : h 40 = aI 201 ra) (hra : isA 201 ra ea) (hea : ∀ j, ea j < k) : Ct G mX1_lowerNumbers 1 0 0 [.ref 38, .int (nI sh), .int (nI (2 * L) - nI N)] h (fun r h2 => r = none ∧ (∃ f2, h2 39 = aI 201 f2 ∧ isA 201 f2 (lwn k ea (2 * L - N) sh nw)) ∧ Fr [39] h h2) := by
  generalize hW : lwn k ea (2 * L - N) sh nw = W
  generalize hQ : (fun (r : Option Value) (h2 : ah) => r = none ∧ (∃ f2, h2 39 = aI 201 f2 ∧ isA 201 f2 W) ∧ Fr [39] h h2) = Q
  have lp : ∀ m i (x : Nat → Nat) (f : Nat → Int32) (hh : ah), i + m = sh + (2 * L - N) → sh ≤ i → lwn k ea m i x = W → (∀ j, x j < k) → hh 39 = aI 201 f → isA 201 f x → Fr [39] h hh → V G mX1_lowerNumbers (b0 1) 2 [some (.ref 38), some (.int (nI sh)), some (.int (nI (2 * L) - nI N)), some (.int (nI i))] [] hh Q := by
    intro m
    induction m with
    | zero =>
      intro i x f hh h1 h2 hw hx k39 kq kf
      have hc : nI sh + (nI (2 * L) - nI N) ≤ nI i := (lw_c (by omega) (by omega) (by omega) (by omega)).mpr (by omega)
      have fin : Q none hh := by
        rw [← hQ, ← hw]
        exact ⟨rfl, ⟨f, k39, kq⟩, kf⟩
      exact tX1_lowerNumbers_2 ((kf 38 (by decide)).trans g38) k39 (fun _ => fin) (fun _ _ => fin) (fun q => absurd hc q) (fun q => absurd hc q) (fun q => absurd hc q) (fun q => absurd hc q)
    | succ m ih =>
      intro i x f hh h1 h2 hw hx k39 kq kf
      have hc : ¬ nI sh + (nI (2 * L) - nI N) ≤ nI i := fun q => by
        have := (lw_c (by omega) (by omega) (by omega) (by omega)).mp q
        omega
      have hi : ¬ nI 201 ≤ nI i := nI_ge (by omega) (by omega)
      have hfi : f (nI i).toNatClampNeg = nI (x i) := by rw [nI_clamp (by omega)]; exact kq i (by omega)
      have hxi := hx i
      have k38 := (kf 38 (by decide)).trans g38
      refine tX1_lowerNumbers_2 k38 k39 (fun q => absurd q hc) (fun _ q => absurd q hi) (fun _ _ => vp_in_nI (by omega) (by decide)) (fun _ _ q => ?_) (fun _ _ _ => vp_in_nI (by omega) (by decide)) (fun _ _ q => ?_)
      · rw [hfi] at q
        have hz : x i = 0 := (nI_eq (by omega) (by omega)).mp q
        rw [nI_1]
        refine ih (i + 1) x f hh (by omega) (by omega) ?_ hx k39 kq kf
        rw [← hw]
        show _ = lwn k ea m (i + 1) (if x i = 0 then x else sbt k x ea (x i) i)
        rw [if_pos hz]
      · rw [hfi] at q ⊢
        have hz : ¬ x i = 0 := fun z => q (by rw [z]; exact nI_0)
        refine cX1_lowerNumbers_35 (k := 36) (C_subtract (h := hh) (y := x i) (sh := i) hk (by omega) (by omega) k38 k39 kq hx ((kf 40 (by decide)).trans g40) hra hea (d := 0)) k38 ⟨by decide, by decide⟩ (Nat.le_of_ble_eq_true rfl) ⟨Nat.le_refl _, Nat.le_refl _⟩ (fun r h3 e => ?_)
        obtain ⟨rfl, ⟨f2, b39, hf2⟩, bf⟩ := e
        refine tX1_lowerNumbers_38 ?_
        rw [nI_1]
        refine ih (i + 1) (sbt k x ea (x i) i) f2 h3 (by omega) (by omega) ?_ (sbt_lt (by omega) hx) b39 hf2 (Fr.tr kf bf (by decide))
        rw [← hw]
        show _ = lwn k ea m (i + 1) (if x i = 0 then x else sbt k x ea (x i) i)
        rw [if_neg hz]
  exact Ct_of (by decide +kernel) (Nat.le_of_ble_eq_true rfl) (tX1_lowerNumbers_0 (lp (2 * L - N) sh nw na h rfl (Nat.le_refl _) hW hnw g39 hna Fr.rf))
theorem C_learn {p N : Nat} {s : Nat → Nat} {it sp : Nat → Int32} {a b : Int32} (hp : k = 2 ∨ k = 3 ∨ k = 5) (hN : N ≤ 200) (g38 : h 38 = (1, .inl [.ref 39, .ref 40, .ref 41, .int a, .int b])) (g39 : h 39 = aI 201 na) (g40 : h 40 = aI 201 ra) (g41 : h 41 = aI 201 sp) (gi : h (p + 2) = aI 200 it) (hpp : p < 36 ∨ 39 < p) (his : ∀ j, j < N → it j = nI (s j) ∧ s j < k) : Ct G mX1_learn 2 0 0 [.ref 38, .ref (p + 2), .int (nI N), .int (nI k)] h (fun r h2 => r = some (.int (nI (bm k s N).2.2.1)) ∧ h2 38 = cC (bm k s N).2.2.1 k ∧ (∃ f2, h2 39 = aI 201 f2 ∧ isA 201 f2 (bmz k s N)) ∧ (∃ f3, h2 40 = aI 201 f3) ∧ (∃ f4, h2 41 = aI 201 f4) ∧ Fr [38, 39, 40, 41] h h2) := by
  have hk : 2 ≤ k ∧ k ≤ 5 := by omega
  generalize hQ : (fun (r : Option Value) (h2 : ah) => r = some (.int (nI (bm k s N).2.2.1)) ∧ h2 38 = cC (bm k s N).2.2.1 k ∧ (∃ f2, h2 39 = aI 201 f2 ∧ isA 201 f2 (bmz k s N)) ∧ (∃ f3, h2 40 = aI 201 f3) ∧ (∃ f4, h2 41 = aI 201 f4) ∧ Fr [38, 39, 40, 41] h h2) = Q
  have lp : ∀ m i (nw ea : Nat → Nat) (L eg sh : Nat) (f1 f2 f3 : Nat → Int32) (hh : ah), i + m = N → bm k s i = (nw, ea, L, eg, sh) → hh 38 = cC L k → hh 39 = aI 201 f1 → isA 201 f1 nw → hh 40 = aI 201 f2 → isA 201 f2 ea → hh 41 = aI 201 f3 → Fr [38, 39, 40, 41] h hh → V G mX1_learn (b0 2) 49 [some (.ref 38), some (.ref (p + 2)), some (.int (nI N)), some (.int (nI k)), some (.int (nI eg)), some (.int (nI sh)), some (.int (nI i))] [] hh Q := by
    intro m
    induction m with
    | zero =>
      intro i nw ea L eg sh f1 f2 f3 hh hi hb k38 k39 q39 k40 q40 k41 kf
      have e : i = N := by omega
      subst e
      obtain ⟨b1, b2, b3, b4, b5, b6, b7⟩ := bm_fa hp hb
      obtain ⟨i1, L2, hbi⟩ := bm_bi hp hb
      have hE : sh + (2 * L - i) ≤ 201 := by
        have := hbi.1
        have := hbi.2.1
        have := hbi.2.2.1
        omega
      refine tX1_learn_49 k38 (fun _ => ?_) (fun q => absurd (nI_le (Nat.le_refl _) (by omega)) q)
      have e2 : (2 : Int32) * nI L = nI (2 * L) := pk_mul 2 L
      rw [e2]
      refine cX1_learn_151 (k := 36) (C_lowerN (h := hh) hk (by omega) hN hE k38 k39 q39 b4 k40 q40 b5) k38 ⟨by decide, by decide⟩ (Nat.le_of_ble_eq_true rfl) ⟨Nat.le_refl _, Nat.le_refl _⟩ (fun r h3 e => ?_)
      obtain ⟨rfl, ⟨f4, c39, hf4⟩, cf⟩ := e
      refine tX1_learn_154 ((cf 38 (by decide)).trans k38) ?_
      rw [← hQ]
      unfold bmz
      rw [hb]
      exact ⟨rfl, (cf 38 (by decide)).trans k38, ⟨f4, c39, hf4⟩, ⟨f2, (cf 40 (by decide)).trans k40⟩, ⟨f3, (cf 41 (by decide)).trans k41⟩, Fr.tr kf cf (by decide)⟩
    | succ m ih =>
      intro i nw ea L eg sh f1 f2 f3 hh hi hb k38 k39 q39 k40 q40 k41 kf
      obtain ⟨b1, b2, b3, b4, b5, b6, b7⟩ := bm_fa hp hb
      have ki : hh (p + 2) = aI 200 it := (kf (p + 2) (by simp; omega)).trans gi
      refine tX1_learn_49 k38 (fun q => absurd q (nI_ge (by omega) (by omega))) (fun _ => ?_)
      refine cX1_learn_59 (k := 36) (C_gapAt (h := hh) (s := s) hk b1 (show i < N by omega) hN k38 k39 q39 b4 ki his (d := 0)) k38 ⟨by decide, by decide⟩ (Nat.le_of_ble_eq_true rfl) ⟨Nat.le_refl _, Nat.le_refl _⟩ (fun r h3 e => ?_)
      obtain ⟨rfl, e⟩ := e; replace e := e.symm; subst e
      have hdl := Nat.mod_lt (cvs s nw L i) (show 0 < k by omega)
      refine tX1_learn_62 (fun q => ?_) (fun q => ?_)
      · have hd : cvs s nw L i % k = 0 := (nI_eq (by omega) (by omega)).mp q
        rw [nI_1, nI_1]
        exact ih (i + 1) nw ea L eg (sh + 1) f1 f2 f3 hh (by omega) (bm_z hb hd) k38 k39 q39 k40 q40 k41 kf
      · have hd : ¬ cvs s nw L i % k = 0 := fun z => q (by rw [z]; exact nI_0)
        refine cX1_learn_74 (k := 36) (C_inverse (h := hh) hp b6 b7 k38 (d := 0)) k38 ⟨by decide, by decide⟩ (Nat.le_of_ble_eq_true rfl) ⟨Nat.le_refl _, Nat.le_refl _⟩ (fun r h3 e => ?_)
        obtain ⟨rfl, e⟩ := e; replace e := e.symm; subst e
        have hiv := (iv_all hp b6 b7).2.1
        have hml := mlt (show cvs s nw L i % k ≤ 5 by omega) (show iv k eg ≤ 5 by omega)
        have e2 : (2 : Int32) * nI L = nI (2 * L) := pk_mul 2 L
        have hyl := Nat.mod_lt (cvs s nw L i % k * iv k eg) (show 0 < k by omega)
        refine tX1_learn_77 k38 (nI_ne0 (by omega) (by omega)) (fun z => ?_) (fun z => ?_)
        · rw [e2] at z
          have hl : i < 2 * L := (nI_ltI (by omega) (by omega)).mp z
          rw [pk_mul, rm_e (by omega) hk]
          refine cX1_learn_128 (k := 36) (C_subtract (h := hh) hk (by omega) (by omega) k38 k39 q39 b4 k40 q40 b5 (d := 0)) k38 ⟨by decide, by decide⟩ (Nat.le_of_ble_eq_true rfl) ⟨Nat.le_refl _, Nat.le_refl _⟩ (fun r h3 e => ?_)
          obtain ⟨rfl, ⟨f4, c39, hf4⟩, cf⟩ := e
          refine V_sub (by exact (And.intro rfl (And.intro rfl (And.intro rfl (And.intro rfl (And.intro rfl (And.intro rfl (And.intro rfl (And.intro rfl True.intro))))))))) (tX1_learn_131 (x7 := nI (cvs s nw L i % k)) ?_)
          rw [nI_1, nI_1]
          exact ih (i + 1) _ ea L eg (sh + 1) f4 f2 f3 h3 (by omega) (bm_s hb hd (by omega)) ((cf 38 (by decide)).trans k38) c39 hf4 ((cf 40 (by decide)).trans k40) q40 ((cf 41 (by decide)).trans k41) (Fr.tr kf cf (by decide))
        · rw [e2] at z
          have hl : 2 * L ≤ i := Nat.le_of_not_lt (fun y => z ((nI_ltI (by omega) (by omega)).mpr y))
          rw [pk_mul, rm_e (by omega) hk, nI_1, pk_sub (show L ≤ i + 1 by omega)]
          refine cX1_learn_110 (k := 36) (C_lengthen (h := hh) (L3 := i + 1 - L) hk (by omega) (by omega) k38 k39 q39 b4 k40 q40 b5 k41) k38 ⟨by decide, by decide⟩ (Nat.le_of_ble_eq_true rfl) ⟨Nat.le_refl _, Nat.le_refl _⟩ (fun r h3 e => ?_)
          obtain ⟨rfl, c38, ⟨f4, c39, hf4⟩, ⟨f5, c40, hf5⟩, ⟨f6, c41⟩, cf⟩ := e
          refine tX1_learn_113 ?_
          rw [nI_1]
          exact ih (i + 1) _ nw (i + 1 - L) (cvs s nw L i % k) 1 f4 f5 f6 h3 (by omega) (bm_l hb hd hl) c38 c39 hf4 c40 hf5 c41 (Fr.tr kf cf (by decide))
  refine Ct_of (by decide +kernel) (Nat.le_of_ble_eq_true rfl) (tX1_learn_0 g38 ?_)
  rw [bx_uu]
  generalize hh0 : va_up h 38 (1, .inl [.ref 39, .ref 40, .ref 41, .int (0 : Int32), .int (nI k)]) = h0
  have f0 : Fr [38, 39, 40, 41] h h0 := by rw [← hh0]; exact Fr.rf.up (by decide)
  have c38 : h0 38 = cC 0 k := by rw [← hh0]; exact up_s _ _ _
  have c39 : h0 39 = aI 201 na := by rw [← hh0]; exact (up_n _ _ (by decide)).trans g39
  have c40 : h0 40 = aI 201 ra := by rw [← hh0]; exact (up_n _ _ (by decide)).trans g40
  have c41 : h0 41 = aI 201 sp := by rw [← hh0]; exact (up_n _ _ (by decide)).trans g41
  refine cX1_learn_15 (C_fillA (p := 37) (d := 0) 0 c39 (by decide)) ⟨by decide, by decide⟩ (Nat.le_of_ble_eq_true rfl) ⟨Nat.le_refl _, Nat.le_refl _⟩ (fun r h1 e => ?_)
  obtain ⟨rfl, rfl⟩ := e
  refine tX1_learn_18 ((up_n _ _ (by decide)).trans c38) ?_
  refine cX1_learn_23 (C_fillA (p := 38) (d := 0) 0 ((up_n _ _ (by decide)).trans c40) (by decide)) ⟨by decide, by decide⟩ (Nat.le_of_ble_eq_true rfl) ⟨Nat.le_refl _, Nat.le_refl _⟩ (fun r h1 e => ?_)
  obtain ⟨rfl, rfl⟩ := e
  refine tX1_learn_26 ((up_n _ _ (by decide)).trans ((up_n _ _ (by decide)).trans c38)) ((up_n _ _ (by decide)).trans (up_s _ _ _)) (up_s _ _ _) (vp_in_nI (n := 0) (by decide) (by decide)) (vp_in_nI (n := 0) (by decide) (by decide)) ?_
  have hz : ∀ f : Nat → Int32, isA 201 (upd (fl f 0 201 0) (0 : Int32).toNatClampNeg (1 : Int32)) ez := fun f j hj => by
    show upd (fl f 0 201 0) 0 1 j = nI (if j = 0 then 1 else 0)
    by_cases hj0 : j = 0
    · rw [hj0, pk_us, if_pos rfl]; exact n1e.symm
    · rw [pk_un hj0, if_neg hj0]
      exact (if_pos ⟨Nat.zero_le _, hj⟩).trans nI_0.symm
  exact lp N 0 ez ez 0 1 1 _ _ sp _ (by omega) rfl ((up_n _ _ (by decide)).trans ((up_n _ _ (by decide)).trans ((up_n _ _ (by decide)).trans ((up_n _ _ (by decide)).trans c38)))) ((up_n _ _ (by decide)).trans (up_s _ _ _)) (hz _) (up_s _ _ _) (hz _) ((up_n _ _ (by decide)).trans ((up_n _ _ (by decide)).trans ((up_n _ _ (by decide)).trans ((up_n _ _ (by decide)).trans c41)))) ((((f0.up (by decide)).up (by decide)).up (by decide)).up (by decide))
end RX
