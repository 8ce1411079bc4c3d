/-! content: the class -/
def xv (x1 x2 x3 x4 x5 : Int32) (v : Nat) : Int32 := [x1, x2, x3, x4, x5].getD v 0
/-- the amounts can be a word's -/
def okc (k n : Nat) (x : Nat → Int32) : Prop := (∀ v, v < 5 → ¬ x v < 0 ∧ (k ≤ v → x v = 0)) ∧ su (fun v => (x v).toNatClampNeg) 5 = n
theorem cl_nn {x : Int32} (h : ¬ x < 0) : x = nI x.toNatClampNeg ∧ x.toNatClampNeg < 2147483648 := by
  obtain ⟨R, hR, rfl⟩ := nI_any h
  rw [nI_clamp (by omega)]
  exact ⟨rfl, hR⟩
theorem su_ge {F : Nat → Nat} {u : Nat} : ∀ q, u < q → F u ≤ su F q
  | 0, h => by omega
  | q + 1, h => by
    show F u ≤ su F q + F q
    by_cases hu : u = q
    · rw [hu]; omega
    · have := su_ge (F := F) (u := u) q (by omega)
      omega
section CX
variable {G : gx} {h : ah} {k n : Nat}
theorem C_takeAmounts {am0 : Nat → Int32} (ok : okW k n) (g3 : h 3 = cW k n) (g5 : h 5 = cK5) (g8 : h 8 = aI 5 am0) (x1 x2 x3 x4 x5 : Int32) : Ct G mX3_takeAmounts 1 0 0 [.ref 5, .int x1, .int x2, .int x3, .int x4, .int x5] h (fun r h2 => ((okc k n (xv x1 x2 x3 x4 x5) ∧ r = some (.int 1)) ∨ (¬ okc k n (xv x1 x2 x3 x4 x5) ∧ r = some (.int 0))) ∧ (∃ am, h2 8 = aI 5 am ∧ ∀ v, v < 5 → am v = xv x1 x2 x3 x4 x5 v) ∧ Fr [8] h h2) := by
  have hk1 := ok.1
  have hk5 := ok.2.1
  have hn := ok.2.2.2.1
  refine Ct_of (by decide +kernel) (Nat.le_of_ble_eq_true rfl) (tX3_takeAmounts_0 g5 g8 (vp_in_nI (n := 0) (by decide) (by decide)) (vp_in_nI (n := 1) (by decide) (by decide)) (vp_in_nI (n := 2) (by decide) (by decide)) (vp_in_nI (n := 3) (by decide) (by decide)) (vp_in_nI (n := 4) (by decide) (by decide)) ?_)
  rw [bx_uu, bx_uu, bx_uu, bx_uu]
  generalize hA : upd (upd (upd (upd (upd am0 (0 : Int32).toNatClampNeg x1) (1 : Int32).toNatClampNeg x2) (2 : Int32).toNatClampNeg x3) (3 : Int32).toNatClampNeg x4) (4 : Int32).toNatClampNeg x5 = am
  have ham : ∀ v, v < 5 → am v = xv x1 x2 x3 x4 x5 v := by
    intro v hv
    rw [← hA]
    match v, hv with
    | 0, _ => rfl
    | 1, _ => rfl
    | 2, _ => rfl
    | 3, _ => rfl
    | 4, _ => rfl
  generalize hx : xv x1 x2 x3 x4 x5 = x at *
  have c3 : va_up h 8 (aI 5 am) 3 = cW k n := g3
  have c5 : va_up h 8 (aI 5 am) 5 = cK5 := g5
  have c8 : va_up h 8 (aI 5 am) 8 = aI 5 am := up_s _ _ _
  have cf : Fr [8] h (va_up h 8 (aI 5 am)) := Fr.rf.up (by decide)
  generalize va_up h 8 (aI 5 am) = hh at *
  have key : ∀ m v, v + m = 5 → (∀ u, u < v → ¬ x u < 0 ∧ (k ≤ u → x u = 0) ∧ (x u).toNatClampNeg ≤ 14) → su (fun v => (x v).toNatClampNeg) v ≤ 14 * v → V G mX3_takeAmounts (b0 1) 43 [some (.ref 5), some (.int x1), some (.int x2), some (.int x3), some (.int x4), some (.int x5), some (.int (nI (su (fun v => (x v).toNatClampNeg) v))), some (.int (nI v))] [] hh (fun r h2 => ((okc k n x ∧ r = some (.int 1)) ∨ (¬ okc k n x ∧ r = some (.int 0))) ∧ (∃ am, h2 8 = aI 5 am ∧ ∀ v, v < 5 → am v = x v) ∧ Fr [8] h h2) := by
    intro m
    induction m with
    | zero =>
      intro v hv hu hs
      have hv5 : v = 5 := by omega
      rw [hv5] at hu hs ⊢
      have kle : (5 : Int32) ≤ nI 5 := by decide
      refine tX3_takeAmounts_43 c5 c3 (fun _ z => ⟨Or.inr ⟨fun q => z ?_, rfl⟩, ⟨am, c8, ham⟩, cf⟩) (fun _ z => ⟨Or.inl ⟨⟨fun u h1 => ⟨(hu u h1).1, (hu u h1).2.1⟩, ?_⟩, rfl⟩, ⟨am, c8, ham⟩, cf⟩) (fun z => absurd kle z)
      · rw [q.2]
      · exact (nI_eq (by omega) (by omega)).mp z
    | succ m ih =>
      intro v hv hu hs
      have hv5 : v < 5 := by omega
      have e1 : am (nI v).toNatClampNeg = x v := by rw [nI_clamp (by omega)]; exact ham v hv5
      have inv : vp_in (nI v) 5 := vp_in_nI (by omega) (by decide)
      have no : ∀ P : ¬ okc k n x, ((okc k n x ∧ some (Value.int 0) = some (.int 1)) ∨ (¬ okc k n x ∧ some (Value.int 0) = some (.int 0))) ∧ (∃ am, hh 8 = aI 5 am ∧ ∀ v, v < 5 → am v = x v) ∧ Fr [8] h hh := fun P => ⟨Or.inr ⟨P, rfl⟩, ⟨am, c8, ham⟩, cf⟩
      have nx : ¬ x v < 0 → (k ≤ v → x v = 0) → (x v).toNatClampNeg ≤ 14 → V G mX3_takeAmounts (b0 1) 43 [some (.ref 5), some (.int x1), some (.int x2), some (.int x3), some (.int x4), some (.int x5), some (.int (nI (su (fun v => (x v).toNatClampNeg) v) + x v)), some (.int (nI v + 1))] [] hh (fun r h2 => ((okc k n x ∧ r = some (.int 1)) ∨ (¬ okc k n x ∧ r = some (.int 0))) ∧ (∃ am, h2 8 = aI 5 am ∧ ∀ v, v < 5 → am v = x v) ∧ Fr [8] h h2) := by
        intro h1 h2 h3
        have e2 := (cl_nn h1).1
        have e3 : nI (su (fun v => (x v).toNatClampNeg) v) + x v = nI (su (fun v => (x v).toNatClampNeg) (v + 1)) := by
          rw [e2, nI_add]
          rfl
        rw [e3, nI_1]
        refine ih (v + 1) (by omega) (fun u h4 => ?_) ?_
        · by_cases huv : u = v
          · rw [huv]; exact ⟨h1, h2, h3⟩
          · exact hu u (by omega)
        · show su (fun v => (x v).toNatClampNeg) v + (x v).toNatClampNeg ≤ 14 * (v + 1)
          omega
      refine tX3_takeAmounts_43 c5 c3 (fun z => absurd z (nI_ge (a := v) (b := 5) (by omega) (by omega))) (fun z => absurd z (nI_ge (a := v) (b := 5) (by omega) (by omega))) (fun _ => ?_)
      refine cX3_takeAmounts_55 (k := 1) (C_isLetter c3 (nI v) (d := 0)) c3 ⟨by decide, by decide⟩ (Nat.le_of_ble_eq_true rfl) ⟨Nat.le_refl _, Nat.le_refl _⟩ (fun r h3 e => ?_)
      obtain ⟨rfl, e⟩ := e
      rw [e]
      have lz : ((if nI v < 0 ∨ nI k ≤ nI v then (0 : Int32) else 1) = 0) ↔ k ≤ v := by
        rw [z01]
        constructor
        · rintro (q | q)
          · exact absurd q (nI_pos (by omega))
          · exact (nI_leI (by omega) (by omega)).mp q
        · exact fun q => Or.inr (nI_le q (by omega))
      refine tX3_takeAmounts_58 c5 c8 c3 (fun _ => inv) (fun _ z => no (fun q => ?_)) (fun _ _ => inv) (fun _ _ _ => inv) (fun z1 z2 z3 => ?_) (fun z1 z2 z3 => no (fun q => ?_)) (fun _ => inv) (fun _ z => no (fun q => ?_)) (fun _ _ => inv) (fun _ _ _ => inv) (fun z1 z2 z3 => ?_) (fun z1 z2 z3 => no (fun q => ?_))
      · rw [e1] at z; exact (q.1 v hv5).1 z
      · rw [e1] at z2 z3 ⊢
        have x0 : x v = 0 := Int32.le_antisymm z3 (Int32.not_lt.mp z2)
        exact nx z2 (fun _ => x0) (by rw [x0]; decide)
      · rw [e1] at z3
        exact z3 (by rw [(q.1 v hv5).2 (lz.mp z1)]; decide)
      · rw [e1] at z; exact (q.1 v hv5).1 z
      · rw [e1] at z2 z3 ⊢
        obtain ⟨e2, e4⟩ := cl_nn z2
        rw [e2, nI_leI (by omega) (by omega)] at z3
        exact nx z2 (fun q => absurd (lz.mpr q) z1) (by omega)
      · rw [e1] at z2 z3
        obtain ⟨e2, e4⟩ := cl_nn z2
        rw [e2, nI_leI (by omega) (by omega)] at z3
        have := su_ge (F := fun v => (x v).toNatClampNeg) 5 hv5
        have e5 := q.2
        have e6 : (x v).toNatClampNeg ≤ su (fun v => (x v).toNatClampNeg) 5 := this
        omega
  exact key 5 0 (by omega) (fun u hu => by omega) (by show 0 ≤ 14 * 0; omega)
theorem C_allDivisible {g : Nat} {am : Nat → Int32} {c : Nat → Nat} (g5 : h 5 = cK5) (g8 : h 8 = aI 5 am) (ha : ∀ v, v < 5 → am v = nI (c v) ∧ c v ≤ 14) (hg1 : 1 ≤ g) (hg : g ≤ 14) {dp : Nat} : Ct G mX3_allDivisible dp 0 0 [.ref 5, .int (nI g)] h (Rv (.int (if advb c g = true then 1 else 0)) h) := by
  have key : ∀ m v, v + m = 5 → (∀ u, u < v → c u % g = 0) → V G mX3_allDivisible (b0 dp) 2 [some (.ref 5), some (.int (nI g)), some (.int (nI v))] [] h (Rv (.int (if advb c g = true then 1 else 0)) h) := by
    intro m
    induction m with
    | zero =>
      intro v hv hu
      have hv5 : v = 5 := by omega
      rw [hv5] at hu ⊢
      have kle : (5 : Int32) ≤ nI 5 := by decide
      refine tX3_allDivisible_2 g5 g8 (fun _ => ⟨?_, rfl⟩) (fun z => absurd kle z) (fun z => absurd kle z) (fun z => absurd kle z) (fun z => absurd kle z)
      rw [if_pos (advb_iff.mpr hu)]
    | succ m ih =>
      intro v hv hu
      have hv5 : v < 5 := by omega
      obtain ⟨e0, e00⟩ := ha v hv5
      have e1 : am (nI v).toNatClampNeg = nI (c v) := by rw [nI_clamp (by omega)]; exact e0
      have er : nI (c v) - nI (c v) / nI g * nI g = nI (c v % g) := pk_rem (by omega) (by omega) (by omega)
      have hm := Nat.mod_lt (c v) (show 0 < g by omega)
      refine tX3_allDivisible_2 g5 g8 (fun z => absurd z (nI_ge (a := v) (b := 5) (by omega) (by omega))) (fun _ => vp_in_nI (by omega) (by decide)) (fun _ => nI_n0 (by omega) (by omega)) (fun _ z => ?_) (fun _ z => ⟨?_, rfl⟩)
      · rw [e1, er] at z
        have z2 : c v % g = 0 := (nI_eq (b := 0) (by omega) (by omega)).mp z
        rw [nI_1]
        refine ih (v + 1) (by omega) (fun u h4 => ?_)
        by_cases huv : u = v
        · rw [huv]; exact z2
        · exact hu u (by omega)
      · rw [e1, er] at z
        rw [if_neg (fun q => z (by rw [advb_iff.mp q v hv5]; rfl))]
  exact Ct_of (by decide +kernel) (Nat.le_of_ble_eq_true rfl) (tX3_allDivisible_0 (key 5 0 (by omega) (fun u hu => by omega)))
theorem n64 : ∀ i, i < 15 → 1 ≤ i → ¬ (nI i).toInt64 = 0 := by decide +kernel
theorem C_arrangements {g : Nat} {am : Nat → Int32} {c : Nat → Nat} (g5 : h 5 = cK5) (g8 : h 8 = aI 5 am) (ha : ∀ v, v < 5 → am v = nI (c v) ∧ c v ≤ 14) (hg1 : 1 ≤ g) (hg : g ≤ 14) {dp : Nat} : Ct G mX3_arrangements dp 0 0 [.ref 5, .int (nI g)] h (Rv (.long (arw c g 5)) h) := by
  have key : ∀ m v, v + m = 5 → V G mX3_arrangements (b0 dp) 8 [some (.ref 5), some (.int (nI g)), some (.long (arw c g v)), none, some (.int (nI (su (fun u => c u / g) v))), some (.int (nI v))] [] h (Rv (.long (arw c g 5)) h) := by
    intro m
    induction m with
    | zero =>
      intro v hv
      have hv5 : v = 5 := by omega
      rw [hv5]
      have kle : (5 : Int32) ≤ nI 5 := by decide
      exact tX3_arrangements_8 (fun _ => ⟨rfl, rfl⟩) (fun z => absurd kle z)
    | succ m ih =>
      intro v hv
      have hv5 : v < 5 := by omega
      obtain ⟨e0, e00⟩ := ha v hv5
      have e1 : am (nI v).toNatClampNeg = nI (c v) := by rw [nI_clamp (by omega)]; exact e0
      have ed : nI (c v) / nI g = nI (c v / g) := pk_div (by omega) (by omega) (by omega)
      have hdl := Nat.div_le_self (c v) g
      have hg0 : ¬ nI g = 0 := nI_n0 (by omega) (by omega)
      have inv : vp_in (nI v) 5 := vp_in_nI (by omega) (by decide)
      refine tX3_arrangements_8 (fun z => absurd z (nI_ge (a := v) (b := 5) (by omega) (by omega))) (fun _ => ?_)
      have inn : ∀ m2 j, j + m2 = c v / g → V G mX3_arrangements (b0 dp) 17 [some (.ref 5), some (.int (nI g)), some (.long (az (arw c g v) (su (fun u => c u / g) v) j)), none, some (.int (nI (su (fun u => c u / g) v + j))), some (.int (nI v)), some (.int (nI (j + 1)))] [] h (Rv (.long (arw c g 5)) h) := by
        intro m2
        induction m2 with
        | zero =>
          intro j hj
          have klt : am (nI v).toNatClampNeg / nI g < nI (j + 1) := by rw [e1, ed]; exact nI_lt (by omega) (by omega)
          refine tX3_arrangements_17 g5 g8 inv hg0 (fun _ => ?_) (fun z => absurd klt z) (fun z => absurd klt z)
          have hjc : j = c v / g := by omega
          rw [nI_1, hjc]
          exact ih (v + 1) (by omega)
        | succ m2 ih2 =>
          intro j hj
          have nlt : ¬ am (nI v).toNatClampNeg / nI g < nI (j + 1) := by rw [e1, ed]; exact nI_nlt (by omega) (by omega)
          refine tX3_arrangements_17 g5 g8 inv hg0 (fun z => absurd z nlt) (fun _ => n64 (j + 1) (by omega) (by omega)) (fun _ => ?_)
          have := ih2 (j + 1) (by omega)
          have es : az (arw c g v) (su (fun u => c u / g) v) (j + 1) = (az (arw c g v) (su (fun u => c u / g) v) j * (nI (su (fun u => c u / g) v + j + 1)).toInt64) / (nI (j + 1)).toInt64 := by
            show fz _ _ = _
            rw [fz_eq]
          rw [es] at this
          rw [nI_1, nI_1]
          exact this
      exact inn (c v / g) 0 (by omega)
  exact Ct_of (by decide +kernel) (Nat.le_of_ble_eq_true rfl) (tX3_arrangements_0 (key 5 0 (by omega)))
theorem C_ringsOfAmounts {am : Nat → Int32} {c : Nat → Nat} (ok : okW k n) (g3 : h 3 = cW k n) (g5 : h 5 = cK5) (g8 : h 8 = aI 5 am) (ha : ∀ v, v < 5 → am v = nI (c v) ∧ c v ≤ 14) : Ct G mX3_ringsOfAmounts 1 0 0 [.ref 5] h (Rv (.int ((rof c n / (nI n).toInt64).toInt32)) h) := by
  have hn1 := ok.2.2.1
  have hn := ok.2.2.2.1
  have key : ∀ m q, q + m = n → V G mX3_ringsOfAmounts (b0 1) 4 [some (.ref 5), some (.long (rof c q)), none, some (.int (nI (q + 1)))] [] h (Rv (.int ((rof c n / (nI n).toInt64).toInt32)) h) := by
    intro m
    induction m with
    | zero =>
      intro q hq
      have klt : nI n < nI (q + 1) := nI_lt (by omega) (by omega)
      refine tX3_ringsOfAmounts_4 g5 g3 (fun _ => n64 n (by omega) hn1) (fun _ => ⟨?_, rfl⟩) (fun z => absurd klt z)
      rw [show q = n by omega]
    | succ m ih =>
      intro q hq
      have nlt : ¬ nI n < nI (q + 1) := nI_nlt (by omega) (by omega)
      have nx := ih (q + 1) (by omega)
      refine tX3_ringsOfAmounts_4 g5 g3 (fun z => absurd z nlt) (fun z => absurd z nlt) (fun _ => ?_)
      refine cX3_ringsOfAmounts_17 (k := 3) (C_allDivisible g5 g8 ha (show 1 ≤ q + 1 by omega) (by omega) (dp := 0)) g5 ⟨by decide, by decide⟩ (Nat.le_of_ble_eq_true rfl) ⟨Nat.le_refl _, Nat.le_refl _⟩ (fun r h3 e => ?_)
      obtain ⟨rfl, e⟩ := e; replace e := e.symm; subst e
      refine tX3_ringsOfAmounts_20 (fun z => ?_) (fun _ => vp_in_nI (by omega) (by decide)) (fun z => ?_)
      · have z2 : ¬ advb c (q + 1) = true := fun e => by rw [if_pos e] at z; exact absurd z (by decide)
        have es : rof c (q + 1) = rof c q := by
          show cond (advb c (q + 1)) _ (rof c q) = rof c q
          rw [Bool.eq_false_iff.mpr z2, cond_false]
        rw [es] at nx
        rw [nI_1]
        exact nx
      · have z2 : advb c (q + 1) = true := Classical.byContradiction (fun e => z (by rw [if_neg e]))
        have es : rof c (q + 1) = rof c q + (totF (q + 1)).toInt64 * arw c (q + 1) 5 := by
          show cond (advb c (q + 1)) (fz (rof c q) _) _ = _
          rw [z2, cond_true, fz_eq]
        rw [es] at nx
        rw [nI_clamp (by omega)]
        refine cX3_ringsOfAmounts_32 (k := 3) (C_arrangements g5 g8 ha (show 1 ≤ q + 1 by omega) (by omega) (dp := 0)) g5 ⟨by decide, by decide⟩ (Nat.le_of_ble_eq_true rfl) ⟨Nat.le_refl _, Nat.le_refl _⟩ (fun r h3 e => ?_)
        obtain ⟨rfl, e⟩ := e; replace e := e.symm; subst e
        refine tX3_ringsOfAmounts_35 ?_
        rw [nI_1]
        exact nx
  exact Ct_of (by decide +kernel) (Nat.le_of_ble_eq_true rfl) (tX3_ringsOfAmounts_0 (key n 0 (by omega)))
end CX
