/-! RINGS up to a word, pure: the mean over all turnings -/
section BUR
variable {k n : Nat}
theorem rz_sp {w : Nat} : ∀ f s, ti k n (s + f) w = w → ti k n (rz k n w f s) w = w ∧ ∀ i, s ≤ i → i < rz k n w f s → ti k n i w ≠ w
  | 0, s, h => ⟨h, fun i h1 h2 => by have : rz k n w 0 s = s := rfl; omega⟩
  | f + 1, s, h => by
    unfold rz
    by_cases hc : ti k n s w = w
    · rw [if_pos hc]
      exact ⟨hc, fun i h1 h2 => by omega⟩
    · rw [if_neg hc]
      obtain ⟨a1, a2⟩ := rz_sp (w := w) f (s + 1) (by rw [show s + 1 + f = s + (f + 1) by omega]; exact h)
      refine ⟨a1, fun i h1 h2 => ?_⟩
      by_cases his : i = s
      · rw [his]; exact hc
      · exact a2 i (by omega) h2
theorem sz_sp (ok : okW k n) {w : Nat} (hw : w < k ^ n) : 1 ≤ sz k n w ∧ sz k n w ≤ n ∧ ti k n (sz k n w) w = w ∧ ∀ i, 1 ≤ i → i < sz k n w → ti k n i w ≠ w := by
  have hn := ok.2.2.1
  obtain ⟨a1, a2⟩ := rz_sp (k := k) (n := n) (w := w) (n - 1) 1 (by rw [show 1 + (n - 1) = n by omega]; exact ti_n ok.pos hw)
  have h1 := rz_ge (k := k) (n := n) (w := w) (n - 1) 1
  have h2 := rz_le (k := k) (n := n) (w := w) (n - 1) 1
  exact ⟨h1, by show rz k n w (n - 1) 1 ≤ n; omega, a1, a2⟩
theorem sz_dv (ok : okW k n) {w : Nat} (hw : w < k ^ n) {d : Nat} : ti k n d w = w ↔ d % sz k n w = 0 := by
  obtain ⟨h1, h2, h3, h4⟩ := sz_sp ok hw
  rw [ti_mod h3 d]
  have hm := Nat.mod_lt d h1
  constructor
  · intro e
    apply Classical.byContradiction
    intro q
    exact h4 _ (by omega) hm e
  · intro e
    rw [e]
    rfl
theorem geo_eq {P : Nat} (hP : 1 ≤ P) : ∀ q, geo P q * (P - 1) + 1 = P ^ q
  | 0 => by show 0 * (P - 1) + 1 = 1; rw [Nat.zero_mul]
  | q + 1 => by
    have ih := geo_eq hP q
    show (P ^ q + geo P q) * (P - 1) + 1 = P ^ (q + 1)
    rw [Nat.add_mul, Nat.add_assoc, ih, Nat.pow_succ, Nat.mul_sub, Nat.mul_one]
    have : P ^ q ≤ P ^ q * P := Nat.le_mul_of_pos_right _ hP
    omega
noncomputable abbrev gg (k n d : Nat) : Nat := geo (k ^ d) (n / d)
theorem gg_eq (ok : okW k n) {d : Nat} (hd : n % d = 0) : gg k n d * (k ^ d - 1) + 1 = k ^ n := by
  have := geo_eq (ok.pp d) (n / d)
  rw [← Nat.pow_mul, Nat.mul_div_cancel' (Nat.dvd_of_mod_eq_zero hd)] at this
  exact this
theorem gg_pos (ok : okW k n) {d : Nat} (hd1 : 1 ≤ d) (hdn : d ≤ n) : k ^ (n - d) ≤ gg k n d ∨ ¬ n % d = 0 := by
  by_cases hd : n % d = 0
  · left
    have hq : 1 ≤ n / d := Nat.div_pos hdn hd1
    obtain ⟨q, e⟩ : ∃ q, n / d = q + 1 := ⟨n / d - 1, by omega⟩
    have hn : d * (n / d) = n := Nat.mul_div_cancel' (Nat.dvd_of_mod_eq_zero hd)
    show k ^ (n - d) ≤ geo (k ^ d) (n / d)
    rw [e]
    show k ^ (n - d) ≤ (k ^ d) ^ q + geo (k ^ d) q
    rw [← Nat.pow_mul, show n - d = d * q by rw [e, Nat.mul_succ] at hn; omega]
    exact Nat.le_add_right _ _
  · exact Or.inr hd
theorem gg_sp (ok : okW k n) {d : Nat} (hd1 : 1 ≤ d) (hdn : d ≤ n) (hd : n % d = 0) : ∃ r, gg k n d = k ^ (n - d) + r ∧ r * (k ^ d - 1) + 1 = k ^ (n - d) := by
  have hq : 1 ≤ n / d := Nat.div_pos hdn hd1
  obtain ⟨q, e⟩ : ∃ q, n / d = q + 1 := ⟨n / d - 1, by omega⟩
  have hn : d * (n / d) = n := Nat.mul_div_cancel' (Nat.dvd_of_mod_eq_zero hd)
  have e2 : k ^ (n - d) = (k ^ d) ^ q := by rw [← Nat.pow_mul, show n - d = d * q by rw [e, Nat.mul_succ] at hn; omega]
  refine ⟨geo (k ^ d) q, ?_, ?_⟩
  · show geo (k ^ d) (n / d) = _
    rw [e, e2]
    rfl
  · rw [e2]; exact geo_eq (ok.pp d) q
theorem rp_lt {d : Nat} (ok : okW k n) (hd1 : 1 ≤ d) (hdn : d ≤ n) (hd : n % d = 0) {y : Nat} (hy : y < k ^ d) : y * gg k n d < k ^ n := by
  have e := gg_eq ok hd
  have : y * gg k n d ≤ (k ^ d - 1) * gg k n d := Nat.mul_le_mul_right _ (by omega)
  rw [Nat.mul_comm (k ^ d - 1)] at this
  omega
theorem rp_top {d : Nat} (ok : okW k n) (hd1 : 1 ≤ d) (hdn : d ≤ n) (hd : n % d = 0) {y : Nat} (hy : y < k ^ d) : y * gg k n d / k ^ (n - d) = y := by
  obtain ⟨r, e1, e2⟩ := gg_sp ok hd1 hdn hd
  have h : y * r < k ^ (n - d) := by
    have : y * r ≤ (k ^ d - 1) * r := Nat.mul_le_mul_right _ (by omega)
    rw [Nat.mul_comm (k ^ d - 1)] at this
    omega
  exact (dm_u h (by rw [e1, Nat.mul_add])).1
theorem tn_mul {d : Nat} (ok : okW k n) (hd1 : 1 ≤ d) (hdn : d ≤ n) (hd : n % d = 0) {m w : Nat} (hk : 0 < k) (hm : 1 ≤ m) (hw : w < k ^ m) : tn k m w + w / k ^ (m - 1) * (k ^ m - 1) = w * k := by
  have e := Nat.div_add_mod w (k ^ (m - 1))
  have e2 : k ^ m = k ^ (m - 1) * k := by rw [← Nat.pow_succ]; congr 1; omega
  have hp : 0 < k ^ m := Nat.pow_pos hk
  unfold tn
  generalize w / k ^ (m - 1) = a at *
  generalize w % k ^ (m - 1) = b at *
  have e3 : w * k = a * k ^ m + b * k := by
    rw [← e, e2, Nat.add_mul, ← Nat.mul_assoc, Nat.mul_comm (k ^ (m - 1)) a]
  rw [e3, Nat.mul_sub, Nat.mul_one]
  have : a ≤ a * k ^ m := Nat.le_mul_of_pos_right _ hp
  omega
theorem tn_rp {d : Nat} (ok : okW k n) (hd1 : 1 ≤ d) (hdn : d ≤ n) (hd : n % d = 0) {y : Nat} (hy : y < k ^ d) : tn k n (y * gg k n d) = tn k d y * gg k n d := by
  have h1 := tn_mul (m := n) ok hd1 hdn hd ok.pos ok.2.2.1 (rp_lt ok hd1 hdn hd hy)
  have h2 := tn_mul (m := d) ok hd1 hdn hd ok.pos hd1 hy
  have h3 : y * gg k n d / k ^ (n - 1) = y / k ^ (d - 1) := by
    have : y * gg k n d / k ^ (n - 1) = y * gg k n d / k ^ (n - d) / k ^ (d - 1) := by rw [dv_dv]; congr 2; omega
    rw [this, rp_top ok hd1 hdn hd hy]
  have e := gg_eq ok hd
  rw [h3] at h1
  have h4 : tn k d y * gg k n d + y / k ^ (d - 1) * (k ^ n - 1) = y * gg k n d * k := by
    have : (tn k d y + y / k ^ (d - 1) * (k ^ d - 1)) * gg k n d = y * k * gg k n d := by rw [h2]
    rw [Nat.add_mul, Nat.mul_assoc (y / k ^ (d - 1)), Nat.mul_comm (k ^ d - 1)] at this
    rw [show k ^ n - 1 = gg k n d * (k ^ d - 1) by omega, this, Nat.mul_right_comm]
  omega
theorem ti_rp {d : Nat} (ok : okW k n) (hd1 : 1 ≤ d) (hdn : d ≤ n) (hd : n % d = 0) {y : Nat} (hy : y < k ^ d) : ∀ i, ti k n i (y * gg k n d) = ti k d i y * gg k n d
  | 0 => rfl
  | i + 1 => by
    show tn k n (ti k n i (y * gg k n d)) = tn k d (ti k d i y) * gg k n d
    rw [ti_rp ok hd1 hdn hd hy i, tn_rp ok hd1 hdn hd (ti_lt ok.pos hd1 hy i)]
theorem gg_p {d : Nat} (ok : okW k n) (hd1 : 1 ≤ d) (hdn : d ≤ n) (hd : n % d = 0) : 0 < gg k n d := by
  obtain ⟨r, e1, e2⟩ := gg_sp ok hd1 hdn hd
  have := ok.pp (n - d)
  omega
theorem lo_rp {d : Nat} (ok : okW k n) (hd1 : 1 ≤ d) (hdn : d ≤ n) (hd : n % d = 0) {y : Nat} (hy : y < k ^ d) : lo k n (y * gg k n d) = y * gg k n d ↔ lo k d y = y := by
  have hg := gg_p ok hd1 hdn hd
  constructor
  · intro h
    refine lo_of ok.pos hd1 hy (fun i hi => ?_)
    have := lo_ti h i (by omega)
    rw [ti_rp ok hd1 hdn hd hy] at this
    exact Nat.le_of_mul_le_mul_right this hg
  · intro h
    refine lo_of ok.pos ok.2.2.1 (rp_lt ok hd1 hdn hd hy) (fun i hi => ?_)
    rw [ti_rp ok hd1 hdn hd hy, ti_mod (ti_n ok.pos hy) i]
    exact Nat.mul_le_mul_right _ (lo_ti h _ (Nat.mod_lt _ hd1))
theorem sz_rp {d : Nat} (ok : okW k n) (hd1 : 1 ≤ d) (hdn : d ≤ n) (hd : n % d = 0) {y : Nat} (hy : y < k ^ d) : sz k n (y * gg k n d) = sz k d y := by
  have hg := gg_p ok hd1 hdn hd
  obtain ⟨h1, h2, h3, h4⟩ := sz_sp (ok.sub hd1 hdn) hy
  refine rz_eq (n - 1) 1 h1 (by omega) (fun i i1 i2 e => h4 i i1 i2 ?_) (by rw [ti_rp ok hd1 hdn hd hy, h3])
  rw [ti_rp ok hd1 hdn hd hy] at e
  exact Nat.eq_of_mul_eq_mul_right hg e
theorem rp_of {d : Nat} (ok : okW k n) (hd1 : 1 ≤ d) (hdn : d ≤ n) (hd : n % d = 0) {v : Nat} (hv : v < k ^ n) (h : ti k n d v = v) : v = v / k ^ (n - d) * gg k n d := by
  have e := gg_eq ok hd
  have e1 := Nat.div_add_mod v (k ^ (n - d))
  rw [ti_eq ok.pos hv d hdn] at h
  have hk1 : 1 < k ^ d := Nat.one_lt_pow (by omega) ok.1
  have e2 : k ^ n = k ^ (n - d) * k ^ d := by rw [← Nat.pow_add]; congr 1; omega
  generalize v / k ^ (n - d) = y at *
  generalize v % k ^ (n - d) = r at *
  have e3 : v * k ^ d = y * k ^ n + r * k ^ d := by
    rw [← e1, e2, Nat.add_mul, ← Nat.mul_assoc, Nat.mul_comm (k ^ (n - d)) y]
  have e4 : v * (k ^ d - 1) = y * gg k n d * (k ^ d - 1) := by
    have q : y * (gg k n d * (k ^ d - 1) + 1) = y * k ^ n := by rw [e]
    rw [Nat.mul_add, Nat.mul_one, ← Nat.mul_assoc] at q
    rw [Nat.mul_sub, Nat.mul_one]
    omega
  exact Nat.eq_of_mul_eq_mul_right (by omega) e4
def tot (j : Nat) : Nat := [0, 1, 1, 2, 2, 4, 2, 6, 4, 6, 4, 10, 4, 12, 6].getD j 0
theorem tot_ok : ∀ n, n < 15 → ∀ s, s < 15 → 1 ≤ s → 1 ≤ n → n % s = 0 → su (fun i => if n % (i + 1) = 0 ∧ (i + 1) % s = 0 then tot (n / (i + 1)) * s else 0) n = n := by decide +kernel
/-- how many rows of d letters, again and again, make a word below v -/
noncomputable def gd (k n d v : Nat) : Nat := (v + (geo (k ^ d) (n / d) - 1)) / geo (k ^ d) (n / d)
noncomputable def bF (k n v i : Nat) : Nat := if n % (i + 1) = 0 then tot (n / (i + 1)) * stA k (i + 1) (gd k n (i + 1) v) else 0
def rgs (k n : Nat) : Nat → Nat := cs (fun w => decide (lo k n w = w))
theorem su_add {F H D : Nat → Nat} : ∀ q, (∀ i, i < q → F i = H i + D i) → su F q = su H q + su D q
  | 0, _ => rfl
  | q + 1, h => by
    show su F q + F q = su H q + H q + (su D q + D q)
    rw [su_add q (fun i hi => h i (by omega)), h q (by omega)]
    omega
theorem su_0 {F : Nat → Nat} : ∀ q, (∀ i, i < q → F i = 0) → su F q = 0
  | 0, _ => rfl
  | q + 1, h => by
    show su F q + F q = 0
    rw [su_0 q (fun i hi => h i (by omega)), h q (by omega)]
theorem gd_s {d v : Nat} (hg : 0 < gg k n d) : gd k n d (v + 1) = v / gg k n d + 1 := by
  unfold gd
  have e : v + 1 + (geo (k ^ d) (n / d) - 1) = v + geo (k ^ d) (n / d) := by have : 0 < geo (k ^ d) (n / d) := hg; omega
  rw [e, Nat.add_div_right _ hg]
theorem gd_y {d y : Nat} (hg : 0 < gg k n d) : gd k n d (y * gg k n d) = y := by
  unfold gd
  exact (dm_u (M := geo (k ^ d) (n / d)) (q := y) (r := geo (k ^ d) (n / d) - 1) (by have : 0 < geo (k ^ d) (n / d) := hg; omega) rfl).1
theorem gd_n {d v : Nat} (hg : 0 < gg k n d) (h : ¬ v = v / gg k n d * gg k n d) : gd k n d v = v / gg k n d + 1 := by
  unfold gd
  show (v + (gg k n d - 1)) / gg k n d = v / gg k n d + 1
  have e := Nat.div_add_mod v (gg k n d)
  have hm := Nat.mod_lt v hg
  rw [Nat.mul_comm] at e
  have e2 : v + (gg k n d - 1) = (v / gg k n d + 1) * gg k n d + (v % gg k n d - 1) := by
    rw [Nat.add_mul, Nat.one_mul]
    omega
  exact (dm_u (by omega) e2).1
theorem bur (ok : okW k n) : ∀ v, v ≤ k ^ n → su (bF k n v) n = n * rgs k n v
  | 0, _ => by
    show _ = n * 0
    rw [Nat.mul_zero]
    refine su_0 n (fun i hi => ?_)
    unfold bF
    by_cases hd : n % (i + 1) = 0
    · have hg := gg_p ok (show 1 ≤ i + 1 by omega) (show i + 1 ≤ n by omega) hd
      have := gd_y (k := k) (n := n) (d := i + 1) (y := 0) hg
      rw [Nat.zero_mul] at this
      rw [if_pos hd, this]
      exact Nat.mul_zero _
    · rw [if_neg hd]
  | v + 1, hv => by
    have ih := bur ok v (by omega)
    have hvN : v < k ^ n := by omega
    have hn14 := ok.2.2.2.1
    obtain ⟨z1, z2, z3, z4⟩ := sz_sp ok hvN
    have hsn : n % sz k n v = 0 := (sz_dv ok hvN).mp (ti_n ok.pos hvN)
    have hr : rgs k n (v + 1) = rgs k n v + (decide (lo k n v = v)).toNat := rfl
    -- one more word: what each turning gets
    have inc : ∀ i, i < n → bF k n (v + 1) i = bF k n v i + if lo k n v = v then (if n % (i + 1) = 0 ∧ (i + 1) % sz k n v = 0 then tot (n / (i + 1)) * sz k n v else 0) else 0 := by
      intro i hi
      unfold bF
      by_cases hd : n % (i + 1) = 0
      · have h1 : 1 ≤ i + 1 := by omega
        have h2 : i + 1 ≤ n := by omega
        have hg := gg_p ok h1 h2 hd
        rw [if_pos hd, if_pos hd, gd_s hg]
        by_cases hdv : v = v / gg k n (i + 1) * gg k n (i + 1)
        · generalize hy : v / gg k n (i + 1) = y at *
          have hyd : y < k ^ (i + 1) := Nat.lt_of_not_le (fun q => by
            have q2 := Nat.mul_le_mul_right (gg k n (i + 1)) q
            have e := gg_eq ok hd
            have hp := ok.pp (i + 1)
            have q3 : gg k n (i + 1) * (k ^ (i + 1) - 1) + gg k n (i + 1) = k ^ (i + 1) * gg k n (i + 1) := by
              rw [← Nat.mul_succ, Nat.mul_comm]
              congr 1
              omega
            omega)
          have e1 : gd k n (i + 1) v = y := by rw [hdv]; exact gd_y hg
          have e2 := lo_rp ok h1 h2 hd hyd
          have e3 := sz_rp ok h1 h2 hd hyd
          rw [← hdv] at e2 e3
          have e4 : (i + 1) % sz k n v = 0 := (sz_dv ok hvN).mp (by
            rw [hdv, ti_rp ok h1 h2 hd hyd, ti_n ok.pos hyd])
          rw [e1]
          show tot (n / (i + 1)) * (stA k (i + 1) y + if lo k (i + 1) y = y then sz k (i + 1) y else 0) = _
          by_cases hl : lo k n v = v
          · rw [if_pos (e2.mp hl), if_pos hl, if_pos ⟨hd, e4⟩, Nat.mul_add, e3]
          · rw [if_neg (fun q => hl (e2.mpr q)), if_neg hl]
            rfl
        · rw [gd_n hg hdv]
          have e4 : ¬ (i + 1) % sz k n v = 0 := fun q => hdv (by
            have := rp_of ok h1 h2 hd hvN ((sz_dv ok hvN).mpr q)
            generalize v / k ^ (n - (i + 1)) = y at this
            have e : v / gg k n (i + 1) = y := by rw [this]; exact Nat.mul_div_cancel _ hg
            rw [e]
            exact this)
          have e5 : ¬ (n % (i + 1) = 0 ∧ (i + 1) % sz k n v = 0) := fun q => e4 q.2
          rw [if_neg e5]
          split <;> rfl
      · have e5 : ¬ (n % (i + 1) = 0 ∧ (i + 1) % sz k n v = 0) := fun q => hd q.1
        rw [if_neg hd, if_neg hd, if_neg e5]
        split <;> rfl
    rw [su_add n inc, ih, hr, Nat.mul_add]
    congr 1
    by_cases hl : lo k n v = v
    · rw [decide_eq_true hl]
      simp only [if_pos hl]
      rw [tot_ok n (by omega) (sz k n v) (by omega) z1 ok.2.2.1 hsn]
      exact (Nat.mul_one n).symm
    · rw [decide_eq_false hl]
      simp only [if_neg hl]
      rw [su_0 n (fun _ _ => rfl)]
      rfl
/-- the greatest row that, again and again, makes a word of at most v -/
theorem gd_b (ok : okW k n) {d v : Nat} (hd1 : 1 ≤ d) (hdn : d ≤ n) (hd : n % d = 0) (hv : v < k ^ n) : (v / k ^ (n - d) * gg k n d ≤ v → v / gg k n d + 1 = v / k ^ (n - d) + 1) ∧ (v < v / k ^ (n - d) * gg k n d → v / gg k n d + 1 = v / k ^ (n - d)) := by
  obtain ⟨r, e1, e2⟩ := gg_sp ok hd1 hdn hd
  have hg := gg_p ok hd1 hdn hd
  have hb := ly_lt ok.pos hv hdn
  have e3 := Nat.div_mul_le_self v (k ^ (n - d))
  have hle : v / gg k n d ≤ v / k ^ (n - d) := Nat.div_le_div_left (by omega) (ok.pp _)
  generalize hB : v / k ^ (n - d) = B at *
  constructor
  · intro h
    have := (Nat.le_div_iff_mul_le hg).mpr h
    omega
  · intro h
    have h1 : v / gg k n d < B := (Nat.div_lt_iff_lt_mul hg).mpr h
    have hB1 : 1 ≤ B := Nat.lt_of_le_of_lt (Nat.zero_le _) h1
    have h2 : B - 1 ≤ v / gg k n d := by
      rw [Nat.le_div_iff_mul_le hg, e1, Nat.mul_add]
      have q1 : (B - 1) * r ≤ (k ^ d - 1) * r := Nat.mul_le_mul_right _ (by omega)
      rw [Nat.mul_comm (k ^ d - 1)] at q1
      have q2 : (B - 1) * k ^ (n - d) + k ^ (n - d) = B * k ^ (n - d) := by
        rw [← Nat.succ_mul]
        congr 1
        omega
      omega
    omega
end BUR
