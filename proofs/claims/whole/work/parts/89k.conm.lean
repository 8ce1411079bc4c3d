/-! content: the reference, and the step -/
theorem ct_last {k : Nat} : ∀ t w v, ct k (t + 1) w v = ct k t w v + if w / k ^ t % k = v then 1 else 0
  | 0, w, v => by
    show 0 + (if w % k = v then 1 else 0) = 0 + if w / k ^ 0 % k = v then 1 else 0
    rw [Nat.pow_zero, Nat.div_one]
  | t + 1, w, v => by
    show ct k (t + 1) (w / k) v + (if w % k = v then 1 else 0) = ct k t (w / k) v + (if w % k = v then 1 else 0) + if w / k ^ (t + 1) % k = v then 1 else 0
    rw [ct_last t (w / k) v, Nat.pow_succ', ← Nat.div_div_eq_div_mul]
    omega
theorem ct_le {k : Nat} : ∀ t w v, ct k t w v ≤ t
  | 0, _, _ => Nat.le_refl _
  | t + 1, w, v => by
    have := ct_le (k := k) t (w / k) v
    show ct k t (w / k) v + (if w % k = v then 1 else 0) ≤ t + 1
    split <;> omega
theorem lgc_eq (x z : Int64) : lg_cmp x z = 0 ↔ x = z := by
  constructor
  · intro h
    have h1 : ¬ x < z := fun q => by have := (lgc_lt x z).mpr q; rw [h] at this; exact absurd this (by decide)
    have h2 : ¬ z < x := fun q => by have := (lgc_gt x z).mpr q; rw [h] at this; exact absurd this (by decide)
    exact Int64.le_antisymm (Int64.not_lt.mp h2) (Int64.not_lt.mp h1)
  · rintro rfl
    have h1 : ¬ lg_cmp x x < 0 := fun q => Int64.lt_irrefl ((lgc_lt x x).mp q)
    have h2 : ¬ 0 < lg_cmp x x := fun q => Int64.lt_irrefl ((lgc_gt x x).mp q)
    exact Int32.le_antisymm (Int32.not_lt.mp h2) (Int32.not_lt.mp h1)
def sI (x : Nat → Int32) : Nat → Int64
  | 0 => 0
  | v + 1 => sI x v + (x v).toInt64
theorem sI_toInt {x : Nat → Int32} : ∀ v, v ≤ 5 → (∀ u, u < v → ¬ x u < 0) → (sI x v).toInt = (su (fun v => (x v).toNatClampNeg) v : Nat) ∧ su (fun v => (x v).toNatClampNeg) v ≤ v * 2147483648
  | 0, _, _ => ⟨show (0 : Int64).toInt = ((0 : Nat) : Int) by decide +kernel, Nat.le_refl _⟩
  | v + 1, hv, h => by
    obtain ⟨h1, h2⟩ := sI_toInt (x := x) v (by omega) (fun u hu => h u (by omega))
    obtain ⟨e1, e2⟩ := cl_nn (h v (by omega))
    have es : su (fun v => (x v).toNatClampNeg) (v + 1) = su (fun v => (x v).toNatClampNeg) v + (x v).toNatClampNeg := rfl
    generalize su (fun v => (x v).toNatClampNeg) v = S at *
    generalize hc : (x v).toNatClampNeg = c at *
    refine ⟨?_, by omega⟩
    show (sI x v + (x v).toInt64).toInt = _
    rw [Int64.toInt_add, h1, e1, Int32.toInt_toInt64, nI_toInt (by omega), es, Int.bmod_def]
    omega
section MC
variable {G : gx} {h : ah} {k n : Nat} {ms mx mc mw ml mf mp mg : Int32}
theorem M_hasWanted {w : Nat} {c : Nat → Nat} {wt hd : Nat → Int32} (ok : okW k n) (g42 : h 42 = cM (nI k) (nI n) (nI (k ^ n)) ms mx mc mw ml mf mp mg) (g44 : h 44 = aI 5 wt) (hwt : ∀ v, v < 5 → wt v = nI (c v) ∧ c v ≤ 14) (g45 : h 45 = aI 5 hd) (hw : w < k ^ n) {dp : Nat} : Ct G mX8_hasWanted dp 0 0 [.ref 42, .int (nI w)] h (fun r h2 => r = some (.int (if pc k n c w = true then 1 else 0)) ∧ (∃ a, h2 45 = aI 5 a) ∧ Fr [45] h h2) := by
  have hk := ok.1
  have hk5 := ok.2.1
  have hn := ok.2.2.2.1
  have hN := ok.le (Nat.le_refl n)
  generalize hQ : (fun (r : Option Value) (h2 : ah) => r = some (.int (if pc k n c w = true then 1 else 0)) ∧ (∃ a, h2 45 = aI 5 a) ∧ Fr [45] h h2) = Q
  have last : ∀ m v (hh : ah) (a : Nat → Int32) (y : Int32) (b : Bool), v + m = 5 → hh 45 = aI 5 a → (∀ u, u < 5 → a u = nI (ct k n w u)) → Fr [45] h hh → (b = true ↔ ∀ u, u < v → ct k n w u = c u) → V G mX8_hasWanted (b0 dp) 65 [some (.ref 42), some (.int (nI w)), some (.int y), some (.int (if b = true then 1 else 0)), some (.int (nI v))] [] hh Q := by
    intro m
    induction m with
    | zero =>
      intro v hh a y b hv c45 ca cf hb
      have hv5 : v = 5 := by omega
      rw [hv5] at hb ⊢
      have kle : (5 : Int32) ≤ nI 5 := by decide
      refine tX8_hasWanted_65 ((cf 42 (by decide)).trans g42) c45 ((cf 44 (by decide)).trans g44) (fun _ => ?_) (fun _ => ?_) (fun z => absurd kle z) (fun z => absurd kle z) (fun z => absurd kle z) (fun z => absurd kle z) (fun z => absurd kle z)
      · rw [← hQ]
        refine ⟨?_, ⟨a, c45⟩, cf⟩
        cases b with
        | true => rw [if_pos rfl, if_pos (show pc k n c w = true from dc_t (hb.mp rfl))]
        | false =>
          have : pc k n c w = false := dc_f (fun z => Bool.noConfusion (hb.mpr z))
          rw [this]
      · cases b <;> rfl
    | succ m ih =>
      intro v hh a y b hv c45 ca cf hb
      have hv5 : v < 5 := by omega
      have hcl := ct_le (k := k) n w v
      obtain ⟨w1, w2⟩ := hwt v hv5
      have ea : a (nI v).toNatClampNeg = nI (ct k n w v) := by rw [nI_clamp (by omega)]; exact ca v hv5
      have ew : wt (nI v).toNatClampNeg = nI (c v) := by rw [nI_clamp (by omega)]; exact w1
      have inv : vp_in (nI v) 5 := vp_in_nI (by omega) (by decide)
      have ng : ∀ {P : Prop}, (5 : Int32) ≤ nI v → P := fun z => absurd z (nI_ge (a := v) (b := 5) (by omega) (by omega))
      have nf := fun z => ih (v + 1) hh a y false (by omega) c45 ca cf z
      have nt := fun z => ih (v + 1) hh a y true (by omega) c45 ca cf z
      refine tX8_hasWanted_65 ((cf 42 (by decide)).trans g42) c45 ((cf 44 (by decide)).trans g44) (fun z => ng z) (fun z => ng z) (fun _ z => ?_) (fun _ _ => inv) (fun _ _ => inv) (fun _ z1 z2 => ?_) (fun _ z1 z2 => ?_)
      · rw [nI_1]
        refine nf ⟨fun q => Bool.noConfusion q, fun q => ?_⟩
        rw [if_pos (hb.mpr (fun u hu => q u (by omega)))] at z
        exact absurd z (by decide)
      · rw [ea, ew] at z2
        rw [nI_1]
        exact nf ⟨fun q => Bool.noConfusion q, fun q => absurd (by rw [q v (by omega)]) z2⟩
      · rw [ea, ew, nI_eq (by omega) (by omega)] at z2
        have hb1 : b = true := by
          cases b with
          | true => rfl
          | false => exact absurd rfl z1
        rw [nI_1]
        refine nt ⟨fun _ u hu => ?_, fun _ => rfl⟩
        by_cases huv : u = v
        · rw [huv]; exact z2
        · exact hb.mp hb1 u (by omega)
  have mid : ∀ m t (hh : ah) (a : Nat → Int32), t + m = n → hh 45 = aI 5 a → (∀ u, u < 5 → a u = nI (ct k t w u)) → Fr [45] h hh → V G mX8_hasWanted (b0 dp) 24 [some (.ref 42), some (.int (nI w)), some (.int (nI (w / k ^ t))), some (.int (nI t))] [] hh Q := by
    intro m
    induction m with
    | zero =>
      intro t hh a ht c45 ca cf
      have htn : t = n := by omega
      have kle : nI n ≤ nI t := nI_le (by omega) (by omega)
      refine tX8_hasWanted_24 ((cf 42 (by decide)).trans g42) c45 (fun _ => ?_) (fun z => absurd kle z) (fun z => absurd kle z) (fun z => absurd kle z) (fun z => absurd kle z) (fun z => absurd kle z)
      rw [htn] at ca
      exact last 5 0 hh a _ true (by omega) c45 ca cf ⟨fun _ u hu => by omega, fun _ => rfl⟩
    | succ m ih =>
      intro t hh a ht c45 ca cf
      have hq := Nat.div_le_self w (k ^ t)
      have hm := Nat.mod_lt (w / k ^ t) ok.pos
      have hk0 : ¬ nI k = 0 := nI_n0 ok.pos (by omega)
      have er : nI (w / k ^ t) - nI (w / k ^ t) / nI k * nI k = nI (w / k ^ t % k) := pk_rem (by omega) ok.pos (by omega)
      have ed : nI (w / k ^ t) / nI k = nI (w / k ^ t / k) := pk_div (by omega) ok.pos (by omega)
      have inv : vp_in (nI (w / k ^ t) - nI (w / k ^ t) / nI k * nI k) 5 := by rw [er]; exact vp_in_nI (by omega) (by decide)
      refine tX8_hasWanted_24 ((cf 42 (by decide)).trans g42) c45 (fun z => absurd z (nI_ge (by omega) (by omega))) (fun _ => hk0) (fun _ => inv) (fun _ => inv) (fun _ => hk0) (fun _ => ?_)
      rw [er, ed, nI_clamp (by omega), nI_1, Nat.div_div_eq_div_mul, ← Nat.pow_succ]
      refine ih (t + 1) _ _ (by omega) (up_s _ _ _) (fun u hu => ?_) (cf.up (by decide))
      rw [ct_last]
      by_cases hue : w / k ^ t % k = u
      · rw [if_pos hue, hue, pk_us, ca u hu, nI_1]
      · rw [if_neg hue, pk_un (fun q => hue q.symm), ca u hu, Nat.add_zero]
  have first : ∀ m v (hh : ah) (a : Nat → Int32), v + m = 5 → hh 45 = aI 5 a → (∀ u, u < v → a u = 0) → Fr [45] h hh → V G mX8_hasWanted (b0 dp) 2 [some (.ref 42), some (.int (nI w)), some (.int (nI v))] [] hh Q := by
    intro m
    induction m with
    | zero =>
      intro v hh a hv c45 ca cf
      have hv5 : v = 5 := by omega
      rw [hv5] at ca ⊢
      have kle : (5 : Int32) ≤ nI 5 := by decide
      refine tX8_hasWanted_2 ((cf 42 (by decide)).trans g42) c45 (fun _ => ?_) (fun z => absurd kle z) (fun z => absurd kle z)
      have := mid n 0 hh a (by omega) c45 (fun u hu => ca u hu) cf
      rw [Nat.pow_zero, Nat.div_one] at this
      exact this
    | succ m ih =>
      intro v hh a hv c45 ca cf
      refine tX8_hasWanted_2 ((cf 42 (by decide)).trans g42) c45 (fun z => absurd z (nI_ge (a := v) (b := 5) (by omega) (by omega))) (fun _ => vp_in_nI (by omega) (by decide)) (fun _ => ?_)
      rw [nI_clamp (by omega), nI_1]
      refine ih (v + 1) _ _ (by omega) (up_s _ _ _) (fun u hu => ?_) (cf.up (by decide))
      by_cases huv : u = v
      · rw [huv, pk_us]
      · rw [pk_un huv]; exact ca u (by omega)
  refine Ct_of (by decide +kernel) (Nat.le_of_ble_eq_true rfl) (tX8_hasWanted_0 ?_)
  exact first 5 0 h hd (by omega) g45 (fun u hu => by omega) Fr.rf
end MC
