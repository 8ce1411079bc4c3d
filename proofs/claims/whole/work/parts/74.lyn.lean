/-! LEAST ROUND, pure: rows that are less than all that they are turned to -/
theorem md_dv {k X a b : Nat} (h : b ≤ a) : X % k ^ a / k ^ b = X / k ^ b % k ^ (a - b) := by
  have e : k ^ a = k ^ b * k ^ (a - b) := by rw [← Nat.pow_add]; congr 1; omega
  rw [e, Nat.mod_mul_right_div_self]
theorem dv_dv (k X a b : Nat) : X / k ^ a / k ^ b = X / k ^ (a + b) := by rw [Nat.div_div_eq_div_mul, ← Nat.pow_add]
theorem md_md {k X a b : Nat} (h : b ≤ a) : X % k ^ a % k ^ b = X % k ^ b := Nat.mod_mod_of_dvd _ (Nat.pow_dvd_pow k h)
def lyn (k s Y : Nat) : Prop := ∀ i, 1 ≤ i → i < s → Y / k ^ i < Y % k ^ (s - i)
section LY
variable {k n s X : Nat}
theorem ly_1 (hs : s ≤ n) (hl : lyn k s (X / k ^ (n - s))) : ∀ i, 1 ≤ i → i < s → X / k ^ i < X % k ^ (n - i) := fun i h1 h2 => by
  have h := hl i h1 h2
  rw [dv_dv] at h
  have e1 : X % k ^ (n - i) / k ^ (n - s) = X / k ^ (n - s) % k ^ (s - i) := by rw [md_dv (by omega)]; congr 2; omega
  have e2 : X / k ^ i / k ^ (n - s) = X / k ^ (n - s + i) := by rw [dv_dv, Nat.add_comm]
  rw [← e1, ← e2] at h
  exact Nat.lt_of_not_le (fun q => absurd (Nat.div_le_div_right q) (Nat.not_le.mpr h))
theorem ly_2 (hs : s ≤ n) (hs1 : 1 ≤ s) (hX : X < k ^ n) (hp : X / k ^ s = X % k ^ (n - s)) (hl : lyn k s (X / k ^ (n - s))) : ∀ b i, i ≤ b → i ≤ n → X / k ^ i ≤ X % k ^ (n - i) := by
  intro b
  induction b with
  | zero =>
    intro i h1 h2
    rw [show i = 0 by omega, Nat.pow_zero, Nat.div_one, Nat.sub_zero, Nat.mod_eq_of_lt hX]
    exact Nat.le_refl _
  | succ b ih =>
    intro i h1 h2
    by_cases hi0 : i = 0
    · rw [hi0, Nat.pow_zero, Nat.div_one, Nat.sub_zero, Nat.mod_eq_of_lt hX]
      exact Nat.le_refl _
    · by_cases his : i < s
      · exact Nat.le_of_lt (ly_1 hs hl i (by omega) his)
      · have h3 := Nat.div_le_div_right (c := k ^ s) (ih (i - s) (by omega) (by omega))
        rw [dv_dv, show i - s + s = i by omega, md_dv (by omega), hp, md_md (by omega), show n - (i - s) - s = n - i by omega] at h3
        exact h3
/-- the last r letters are the first ones -/
theorem ly_r (hp : X / k ^ s = X % k ^ (n - s)) {r : Nat} : ∀ q, q * s + r ≤ n → X % k ^ r = X / k ^ (q * s) % k ^ r
  | 0, _ => by rw [Nat.zero_mul, Nat.pow_zero, Nat.div_one]
  | q + 1, h => by
    rw [Nat.succ_mul] at h ⊢
    rw [ly_r hp q (by omega), show q * s + s = s + q * s by omega, ← dv_dv, hp, md_dv (by omega), md_md (by omega)]
theorem ly_lt (hk : 0 < k) (hX : X < k ^ n) {i : Nat} (hi : i ≤ n) : X / k ^ (n - i) < k ^ i := by
  rw [Nat.div_lt_iff_lt_mul (Nat.pow_pos hk), ← Nat.pow_add, show i + (n - i) = n by omega]
  exact hX
theorem ti_gt (hk : 0 < k) (hX : X < k ^ n) {i : Nat} (hi : i ≤ n) (h : X / k ^ i < X % k ^ (n - i)) : X < ti k n i X := by
  rw [ti_eq hk hX i hi]
  have e := Nat.div_add_mod X (k ^ i)
  have h2 : (X / k ^ i + 1) * k ^ i ≤ X % k ^ (n - i) * k ^ i := Nat.mul_le_mul_right _ h
  have h3 := Nat.mod_lt X (Nat.pow_pos (n := i) hk)
  rw [Nat.add_mul, Nat.one_mul, Nat.mul_comm] at h2
  generalize X / k ^ (n - i) = p
  omega
theorem rz_eq {w : Nat} : ∀ f j, j ≤ s → s ≤ j + f → (∀ i, j ≤ i → i < s → ti k n i w ≠ w) → ti k n s w = w → rz k n w f j = s
  | 0, j, h1, h2, _, _ => by show j = s; omega
  | f + 1, j, h1, h2, h3, h4 => by
    unfold rz
    by_cases hj : j = s
    · rw [hj, if_pos h4]
    · rw [if_neg (h3 j (Nat.le_refl _) (by omega))]
      exact rz_eq f (j + 1) (by omega) (by omega) (fun i a b => h3 i (by omega) b) h4
theorem lo_of (hk : 0 < k) (hn : 1 ≤ n) {w : Nat} (hw : w < k ^ n) (h : ∀ i, i < n → w ≤ ti k n i w) : lo k n w = w := by
  obtain ⟨t, h1, h2⟩ := lm_in (k := k) (n := n) (w := w) (n - 1)
  have h3 := lm_le k n w (n - 1)
  have h4 := h t (by omega)
  unfold lo
  omega
theorem lo_ti {w : Nat} (h : lo k n w = w) (i : Nat) (hi : i < n) : w ≤ ti k n i w := by
  have h1 := lm_ti (k := k) (n := n) (w := w) (n - 1) i (by omega)
  unfold lo at h
  omega
theorem ly_yes (hk : 0 < k) (hs : s ≤ n) (hs1 : 1 ≤ s) (hX : X < k ^ n) (hp : X / k ^ s = X % k ^ (n - s)) (hl : lyn k s (X / k ^ (n - s))) (hd : n % s = 0) : lo k n X = X ∧ rz k n X (n - 1) 1 = s := by
  have hq : n / s * s = n := Nat.div_mul_cancel (Nat.dvd_of_mod_eq_zero hd)
  have hq1 : 1 ≤ n / s := Nat.div_pos hs hs1
  have hlast : X % k ^ s = X / k ^ (n - s) := by
    have e : (n / s - 1) * s = n - s := by rw [Nat.sub_mul, Nat.one_mul, hq]
    rw [ly_r hp (r := s) (n / s - 1) (by omega), e, Nat.mod_eq_of_lt (ly_lt hk hX hs)]
  have hts : ti k n s X = X := by
    rw [ti_eq hk hX s hs, ← hp, ← hlast, Nat.mul_comm, Nat.div_add_mod]
  have gt : ∀ i, 1 ≤ i → i < s → X < ti k n i X := fun i h1 h2 => ti_gt hk hX (by omega) (ly_1 hs hl i h1 h2)
  refine ⟨lo_of hk (by omega) hX (fun i hi => ?_), rz_eq (n - 1) 1 hs1 (by omega) (fun i h1 h2 e => absurd (gt i h1 h2) (by omega)) hts⟩
  rw [ti_mod hts i]
  have hm := Nat.mod_lt i (show 0 < s by omega)
  rcases Nat.eq_zero_or_pos (i % s) with z | z
  · rw [z]; exact Nat.le_refl _
  · exact Nat.le_of_lt (gt _ z hm)
theorem ly_no (hk : 0 < k) (hs : s ≤ n) (hs1 : 1 ≤ s) (hX : X < k ^ n) (hp : X / k ^ s = X % k ^ (n - s)) (hl : lyn k s (X / k ^ (n - s))) (hd : ¬ n % s = 0) : ¬ lo k n X = X := by
  intro h
  have hr := Nat.mod_lt n (show 0 < s by omega)
  generalize hrr : n % s = r at *
  have hq : n / s * s + r = n := by rw [← hrr, Nat.mul_comm]; exact Nat.div_add_mod n s
  have hlast : X % k ^ r = X / k ^ (n - r) := by
    rw [ly_r hp (r := r) (n / s) (by omega), show n / s * s = n - r by omega, Nat.mod_eq_of_lt (ly_lt hk hX (by omega))]
  have h1 := ly_1 hs hl r (by omega) hr
  have h2 := lo_ti h (n - r) (by omega)
  rw [ti_eq hk hX (n - r) (by omega), show n - (n - r) = r by omega, hlast] at h2
  have e := Nat.div_add_mod X (k ^ (n - r))
  rw [Nat.mul_comm] at e
  omega
/-- a least word that begins as X is not less than X -/
theorem ly_sk (hk : 0 < k) (hs : s ≤ n) (hs1 : 1 ≤ s) (hX : X < k ^ n) (hp : X / k ^ s = X % k ^ (n - s)) {w : Nat} (hw : w < k ^ n) (hb : w / k ^ (n - s) = X / k ^ (n - s)) (hlo : lo k n w = w) : X ≤ w := by
  have star : w / k ^ s ≤ w % k ^ (n - s) := by
    by_cases hsn : s = n
    · rw [hsn, Nat.div_eq_of_lt hw]; exact Nat.zero_le _
    · have h := Nat.div_le_div_right (c := k ^ s) (lo_ti hlo s (by omega))
      rw [ti_eq hk hw s hs, Nat.add_comm, Nat.add_mul_div_right _ _ (Nat.pow_pos hk), Nat.div_eq_of_lt (ly_lt hk hw hs), Nat.zero_add] at h
      exact h
  have key : ∀ b j, j ≤ b → j ≤ n → X / k ^ (n - j) ≤ w / k ^ (n - j) := by
    intro b
    induction b with
    | zero =>
      intro j h1 h2
      rw [show j = 0 by omega, Nat.sub_zero, Nat.div_eq_of_lt hX]
      exact Nat.zero_le _
    | succ b ih =>
      intro j h1 h2
      by_cases hjs : j ≤ s
      · have e : ∀ Z, Z / k ^ (n - j) = Z / k ^ (n - s) / k ^ (s - j) := fun Z => by rw [dv_dv]; congr 2; omega
        rw [e, e, hb]
        exact Nat.le_refl _
      · have spl : ∀ Z, Z / k ^ (n - j) = Z / k ^ (n - s) * k ^ (j - s) + Z % k ^ (n - s) / k ^ (n - j) := fun Z => by
          have e0 : Z / k ^ (n - s) = Z / k ^ (n - j) / k ^ (j - s) := by rw [dv_dv]; congr 2; omega
          rw [md_dv (by omega), e0, show n - s - (n - j) = j - s by omega, Nat.mul_comm, Nat.div_add_mod]
        rw [spl X, spl w, hb]
        apply Nat.add_le_add_left
        have h3 := Nat.div_le_div_right (c := k ^ (n - j)) star
        have h4 := ih (j - s) (by omega) (by omega)
        rw [← hp, dv_dv, show s + (n - j) = n - (j - s) by omega]
        rw [dv_dv, show s + (n - j) = n - (j - s) by omega] at h3
        exact Nat.le_trans h4 h3
  have := key n n (Nat.le_refl _) (Nat.le_refl _)
  rw [Nat.sub_self, Nat.pow_zero, Nat.div_one, Nat.div_one] at this
  exact this
end LY
/-- the number of the first j letters -/
def rn (k : Nat) (x : Nat → Nat) : Nat → Nat
  | 0 => 0
  | j + 1 => rn k x j * k + x j
theorem rn_lt {k : Nat} {x : Nat → Nat} (hx : ∀ i, x i < k) : ∀ j, rn k x j < k ^ j
  | 0 => Nat.one_pos
  | j + 1 => by rw [Nat.pow_succ]; exact dm_lt (rn_lt hx j) (hx j)
theorem rn_add {k : Nat} {x : Nat → Nat} (a : Nat) : ∀ b, rn k x (a + b) = rn k x a * k ^ b + rn k (fun i => x (i + a)) b
  | 0 => by rw [Nat.pow_zero, Nat.mul_one]; rfl
  | b + 1 => by
    show rn k x (a + b) * k + x (a + b) = _ + (rn k (fun i => x (i + a)) b * k + x (b + a))
    rw [rn_add a b, Nat.add_mul, Nat.mul_assoc, ← Nat.pow_succ, Nat.add_assoc, Nat.add_comm a b]
theorem rn_dm {k n : Nat} {x : Nat → Nat} (hx : ∀ i, x i < k) {j : Nat} (hj : j ≤ n) : rn k x n / k ^ (n - j) = rn k x j ∧ rn k x n % k ^ (n - j) = rn k (fun i => x (i + j)) (n - j) := by
  have e := rn_add (k := k) (x := x) j (n - j)
  rw [show j + (n - j) = n by omega] at e
  exact dm_u (rn_lt (fun i => hx (i + j)) (n - j)) e
theorem rn_cg {k : Nat} {x y : Nat → Nat} : ∀ j, (∀ i, i < j → x i = y i) → rn k x j = rn k y j
  | 0, _ => rfl
  | j + 1, h => by
    show rn k x j * k + x j = rn k y j * k + y j
    rw [rn_cg j (fun i hi => h i (by omega)), h j (by omega)]
theorem rn_dig {k n : Nat} {x : Nat → Nat} (hx : ∀ i, x i < k) {i : Nat} (hi : i < n) : rn k x n / k ^ (n - 1 - i) % k = x i := by
  have e := (rn_dm hx (n := n) (j := i + 1) (by omega)).1
  rw [show n - (i + 1) = n - 1 - i by omega] at e
  rw [e]
  exact (dm_u (hx i) rfl).2
/-- a row of s letters, again and again -/
def rst (k n s : Nat) (x : Nat → Nat) : Prop := 1 ≤ s ∧ s ≤ n ∧ (∀ i, x i < k) ∧ (∀ i, x (i + s) = x i) ∧ lyn k s (rn k x s)
theorem rst_f {k n s : Nat} {x : Nat → Nat} (h : rst k n s x) : rn k x n < k ^ n ∧ rn k x n / k ^ s = rn k x n % k ^ (n - s) ∧ lyn k s (rn k x n / k ^ (n - s)) := by
  obtain ⟨h1, h2, h3, h4, h5⟩ := h
  refine ⟨rn_lt h3 n, ?_, ?_⟩
  · have e1 := (rn_dm h3 (n := n) (j := n - s) (by omega)).1
    rw [show n - (n - s) = s by omega] at e1
    rw [e1, (rn_dm h3 h2).2]
    exact (rn_cg (n - s) (fun i _ => (h4 i).symm))
  · rw [(rn_dm h3 h2).1]; exact h5
theorem inc_dv {k Z : Nat} (hk : 2 ≤ k) (h : Z % k ≠ k - 1) : ∀ i, 1 ≤ i → (Z + 1) / k ^ i = Z / k ^ i := fun i hi => by
  have hm := Nat.mod_lt Z (show 0 < k by omega)
  have e : Z + 1 = Z / k * k + (Z % k + 1) := by
    have := Nat.div_add_mod Z k
    rw [Nat.mul_comm] at this
    omega
  have e1 : (Z + 1) / k = Z / k := (dm_u (M := k) (by omega) e).1
  obtain ⟨j, rfl⟩ : ∃ j, i = j + 1 := ⟨i - 1, by omega⟩
  rw [Nat.pow_succ', ← Nat.div_div_eq_div_mul, ← Nat.div_div_eq_div_mul, e1]
theorem inc_md {k Z : Nat} (hk : 2 ≤ k) (h : Z % k ≠ k - 1) : ∀ j, 1 ≤ j → (Z + 1) % k ^ j = Z % k ^ j + 1 := fun j hj => by
  have hp : 0 < k ^ j := Nat.pow_pos (by omega)
  have hm := Nat.mod_lt Z hp
  have e : Z + 1 = Z / k ^ j * k ^ j + (Z % k ^ j + 1) := by
    have := Nat.div_add_mod Z (k ^ j)
    rw [Nat.mul_comm] at this
    omega
  have hne : Z % k ^ j ≠ k ^ j - 1 := fun q => by
    have h1 : Z % k ^ j % k = Z % k := Nat.mod_mod_of_dvd _ (Nat.dvd_trans (Nat.dvd_refl k) (by
      obtain ⟨i, rfl⟩ : ∃ i, j = i + 1 := ⟨j - 1, by omega⟩
      exact ⟨k ^ i, Nat.pow_succ'⟩))
    obtain ⟨i, rfl⟩ : ∃ i, j = i + 1 := ⟨j - 1, by omega⟩
    have hpi : 0 < k ^ i := Nat.pow_pos (by omega)
    have e2 : k ^ (i + 1) - 1 = (k ^ i - 1) * k + (k - 1) := by
      rw [Nat.pow_succ, Nat.sub_mul, Nat.one_mul]
      have : k ≤ k ^ i * k := Nat.le_mul_of_pos_left k hpi
      omega
    rw [q, e2, (dm_u (q := k ^ i - 1) (M := k) (r := k - 1) (by omega) rfl).2] at h1
    exact h h1.symm
  exact (dm_u (by omega) e).2
/-- the next row -/
def rnx (x : Nat → Nat) (m : Nat) : Nat → Nat := fun i => if i % m = m - 1 then x (m - 1) + 1 else x (i % m)
theorem rn_max {k : Nat} {x : Nat → Nat} (hk : 2 ≤ k) : ∀ e, (∀ i, i < e → x i = k - 1) → rn k x e + 1 = k ^ e
  | 0, _ => rfl
  | e + 1, h => by
    have ih := rn_max (k := k) (x := x) hk e (fun i hi => h i (by omega))
    show rn k x e * k + x e + 1 = k ^ (e + 1)
    rw [h e (by omega), Nat.pow_succ, ← ih, Nat.add_mul, Nat.one_mul]
    omega
theorem r_next {k n s m : Nat} {x : Nat → Nat} (hk : 2 ≤ k) (h : rst k n s x) (hm1 : 1 ≤ m) (hm : m ≤ n) (hx : x (m - 1) ≠ k - 1) (he : ∀ i, m ≤ i → i < n → x i = k - 1) : rst k n m (rnx x m) ∧ rn k x n < rn k (rnx x m) n ∧ ∀ w, rn k x n < w → w < rn k (rnx x m) n → ¬ lo k n w = w := by
  have hk0 : 0 < k := by omega
  obtain ⟨f1, f2, f3⟩ := rst_f h
  obtain ⟨h1, h2, h3, h4, h5⟩ := h
  have pn := ly_2 (k := k) h2 h1 f1 f2 f3 n
  have hZ := (rn_dm h3 hm).1
  have hx3 : ∀ i, rnx x m i < k := fun i => by
    have := h3 (m - 1)
    unfold rnx
    split
    · omega
    · exact h3 _
  have hx4 : ∀ i, rnx x m (i + m) = rnx x m i := fun i => by
    unfold rnx
    rw [Nat.add_mod_right]
  obtain ⟨m2, rfl⟩ : ∃ m2, m = m2 + 1 := ⟨m - 1, by omega⟩
  have hY : rn k (rnx x (m2 + 1)) (m2 + 1) = rn k x (m2 + 1) + 1 := by
    show rn k (rnx x (m2 + 1)) m2 * k + rnx x (m2 + 1) m2 = rn k x m2 * k + x m2 + 1
    have e1 : rn k (rnx x (m2 + 1)) m2 = rn k x m2 := rn_cg m2 (fun i hi => by
      unfold rnx
      rw [Nat.mod_eq_of_lt (by omega), if_neg (by omega)])
    have e2 : rnx x (m2 + 1) m2 = x m2 + 1 := by
      unfold rnx
      rw [Nat.mod_eq_of_lt (by omega), if_pos (by omega), Nat.add_sub_cancel]
    rw [e1, e2]
    omega
  have hZk : rn k x (m2 + 1) % k ≠ k - 1 := by
    have : rn k x (m2 + 1) % k = x m2 := (dm_u (h3 m2) rfl).2
    rw [this]
    exact hx
  have hr : rst k n (m2 + 1) (rnx x (m2 + 1)) := by
    refine ⟨hm1, hm, hx3, hx4, fun i i1 i2 => ?_⟩
    rw [hY, inc_dv hk hZk i i1, inc_md hk hZk _ (by omega)]
    have h6 := Nat.div_le_div_right (c := k ^ (n - (m2 + 1))) (pn i (by omega) (by omega))
    rw [dv_dv, Nat.add_comm, ← dv_dv, hZ, md_dv (by omega), hZ, show n - i - (n - (m2 + 1)) = m2 + 1 - i by omega] at h6
    omega
  obtain ⟨F1, F2, F3⟩ := rst_f hr
  have hX1 : rn k x n + 1 = (rn k x (m2 + 1) + 1) * k ^ (n - (m2 + 1)) := by
    have e1 := Nat.div_add_mod (rn k x n) (k ^ (n - (m2 + 1)))
    rw [hZ, (rn_dm h3 hm).2] at e1
    have e2 := rn_max (k := k) (x := fun i => x (i + (m2 + 1))) hk (n - (m2 + 1)) (fun i hi => he _ (by omega) (by omega))
    rw [Nat.add_mul, Nat.one_mul, Nat.mul_comm (rn k x (m2 + 1))]
    omega
  have hX2 : rn k (rnx x (m2 + 1)) n / k ^ (n - (m2 + 1)) = rn k x (m2 + 1) + 1 := by rw [(rn_dm hx3 hm).1, hY]
  refine ⟨hr, ?_, fun w w1 w2 hlo => ?_⟩
  · have := Nat.div_mul_le_self (rn k (rnx x (m2 + 1)) n) (k ^ (n - (m2 + 1)))
    rw [hX2] at this
    omega
  · have hwN : w < k ^ n := Nat.lt_trans w2 F1
    have hb : w / k ^ (n - (m2 + 1)) = rn k (rnx x (m2 + 1)) n / k ^ (n - (m2 + 1)) := by
      apply Nat.le_antisymm
      · exact Nat.div_le_div_right (Nat.le_of_lt w2)
      · rw [hX2, Nat.le_div_iff_mul_le (Nat.pow_pos hk0)]
        omega
    have := ly_sk hk0 hm hm1 F1 F2 hwN hb hlo
    omega
