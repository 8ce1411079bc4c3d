/-! LOWERING a row to one that a least word can begin with: pure -/
def PN (k d w : Nat) : Prop := ∀ i, i ≤ d → w / k ^ i ≤ w % k ^ (d - i)
theorem lo_PN {k n w : Nat} (hk : 0 < k) (hw : w < k ^ n) (h : lo k n w = w) : PN k n w := fun i hi => by
  by_cases hin : i = n
  · rw [hin, Nat.div_eq_of_lt hw]; exact Nat.zero_le _
  · have h1 := Nat.div_le_div_right (c := k ^ i) (lo_ti h i (by omega))
    rw [ti_eq hk hw i hi, Nat.add_comm, Nat.add_mul_div_right _ _ (Nat.pow_pos hk), Nat.div_eq_of_lt (ly_lt hk hw hi), Nat.zero_add] at h1
    exact h1
theorem lst_dv {k A c : Nat} (hc : c < k) {j : Nat} (hj : 1 ≤ j) : (A * k + c) / k ^ j = A / k ^ (j - 1) := by
  obtain ⟨i, rfl⟩ : ∃ i, j = i + 1 := ⟨j - 1, by omega⟩
  rw [Nat.pow_succ', ← Nat.div_div_eq_div_mul, (dm_u hc rfl).1, Nat.add_sub_cancel]
theorem lst_md {k A c : Nat} (hk : 0 < k) (hc : c < k) {j : Nat} (hj : 1 ≤ j) : (A * k + c) % k ^ j = A % k ^ (j - 1) * k + c := by
  obtain ⟨i, rfl⟩ : ∃ i, j = i + 1 := ⟨j - 1, by omega⟩
  rw [Nat.add_sub_cancel]
  have e : A * k + c = A / k ^ i * k ^ (i + 1) + (A % k ^ i * k + c) := by
    have := Nat.div_add_mod A (k ^ i)
    calc A * k + c = (k ^ i * (A / k ^ i) + A % k ^ i) * k + c := by rw [this]
      _ = _ := by rw [Nat.add_mul, Nat.mul_comm (k ^ i), Nat.mul_assoc, ← Nat.pow_succ, Nat.add_assoc]
  exact (dm_u (by rw [Nat.pow_succ]; exact dm_lt (Nat.mod_lt _ (Nat.pow_pos hk)) hc) e).2
/-- the first fault, sought from place i on, with period p -/
def fft (x : Nat → Nat) (d : Nat) : Nat → Nat → Nat → Nat
  | 0, _, _ => d
  | m + 1, i, p => if x i < x (i - p) then i else if x (i - p) < x i then fft x d m (i + 1) (i + 1) else fft x d m (i + 1) p
/-- the letters below i are the first p, again and again, which are less than all they end with -/
def pre (k : Nat) (x : Nat → Nat) (i p : Nat) : Prop := 1 ≤ p ∧ p ≤ i ∧ (∀ j, p ≤ j → j < i → x j = x (j - p)) ∧ lyn k p (rn k x p)
theorem pre_per {k i p : Nat} {x : Nat → Nat} (hx : ∀ i, x i < k) (h : pre k x i p) {n : Nat} (hn : p ≤ n) : rst k n p (fun j => x (j % p)) := by
  obtain ⟨h1, h2, h3, h4⟩ := h
  refine ⟨h1, hn, fun j => hx _, fun j => by show x ((j + p) % p) = x (j % p); rw [Nat.add_mod_right], ?_⟩
  rw [rn_cg (y := x) p (fun j hj => by show x (j % p) = x j; rw [Nat.mod_eq_of_lt hj])]
  exact h4
theorem pre_eq {k i p : Nat} {x : Nat → Nat} (h : pre k x i p) : ∀ j, j < i → x (j % p) = x j := by
  obtain ⟨h1, h2, h3, h4⟩ := h
  have key : ∀ b j, j ≤ b → j < i → x (j % p) = x j := by
    intro b
    induction b with
    | zero => intro j hb _; rw [show j = 0 by omega, Nat.zero_mod]
    | succ b ih =>
      intro j hb hj
      by_cases hjp : j < p
      · rw [Nat.mod_eq_of_lt hjp]
      · rw [h3 j (by omega) hj, ← ih (j - p) (by omega) (by omega), ← Nat.mod_eq_sub_mod (by omega)]
  exact fun j hj => key j j (Nat.le_refl _) hj
theorem pre_PN {k i p : Nat} {x : Nat → Nat} (hx : ∀ i, x i < k) (h : pre k x i p) : PN k i (rn k x i) := by
  have hr := pre_per hx h (n := i) h.2.1
  obtain ⟨f1, f2, f3⟩ := rst_f hr
  rw [rn_cg (y := x) i (fun j hj => pre_eq h j hj)] at f1 f2 f3
  exact fun j hj => ly_2 h.2.1 h.1 f1 f2 f3 i j hj hj
theorem pre_gt {k i p : Nat} {x : Nat → Nat} (hx : ∀ i, x i < k) (h : pre k x i p) (hg : x (i - p) < x i) : pre k x (i + 1) (i + 1) := by
  have hk : 0 < k := Nat.lt_of_le_of_lt (Nat.zero_le _) (hx 0)
  have hr := pre_per hx h (n := i + 1) (by have := h.2.1; omega)
  obtain ⟨f1, f2, f3⟩ := rst_f hr
  have h1 := h.1
  have h2 := h.2.1
  have pn := ly_2 (k := k) (show p ≤ i + 1 by omega) h1 f1 f2 f3 (i + 1)
  have eZ : rn k (fun j => x (j % p)) (i + 1) = rn k x i * k + x (i - p) := by
    show rn k (fun j => x (j % p)) i * k + x (i % p) = _
    rw [rn_cg (y := x) i (fun j hj => pre_eq h j hj)]
    congr 1
    have := pre_eq h (i - p) (by omega)
    rw [← this, ← Nat.mod_eq_sub_mod (by omega)]
  refine ⟨by omega, Nat.le_refl _, fun j a b => by omega, fun j j1 j2 => ?_⟩
  have q := pn j (by omega) (by omega)
  rw [eZ, lst_dv (hx _) j1, lst_md hk (hx _) (by omega)] at q
  show (rn k x i * k + x i) / k ^ j < (rn k x i * k + x i) % k ^ (i + 1 - j)
  rw [lst_dv (hx _) j1, lst_md hk (hx _) (by omega)]
  omega
theorem pre_ge {k i p : Nat} {x : Nat → Nat} (h : pre k x i p) (he : x i = x (i - p)) : pre k x (i + 1) p := by
  obtain ⟨h1, h2, h3, h4⟩ := h
  refine ⟨h1, by omega, fun j a b => ?_, h4⟩
  by_cases hji : j = i
  · rw [hji]; exact he
  · exact h3 j a (by omega)
theorem fft_ok {k d : Nat} {x : Nat → Nat} (hx : ∀ i, x i < k) : ∀ m i p, i + m = d → pre k x i p → (fft x d m i p = d ∧ PN k d (rn k x d)) ∨ (i ≤ fft x d m i p ∧ fft x d m i p < d ∧ ∃ q, pre k x (fft x d m i p) q ∧ x (fft x d m i p) < x (fft x d m i p - q))
  | 0, i, p, h1, h2 => Or.inl ⟨rfl, by have := pre_PN hx h2; rw [show i = d by omega] at this; exact this⟩
  | m + 1, i, p, h1, h2 => by
    unfold fft
    by_cases c1 : x i < x (i - p)
    · rw [if_pos c1]
      exact Or.inr ⟨Nat.le_refl _, by omega, p, h2, c1⟩
    · rw [if_neg c1]
      by_cases c2 : x (i - p) < x i
      · rw [if_pos c2]
        rcases fft_ok (d := d) hx m (i + 1) (i + 1) (by omega) (pre_gt hx h2 c2) with q | ⟨q1, q2⟩
        · exact Or.inl q
        · exact Or.inr ⟨by omega, q2⟩
      · rw [if_neg c2]
        rcases fft_ok (d := d) hx m (i + 1) p (by omega) (pre_ge h2 (by omega)) with q | ⟨q1, q2⟩
        · exact Or.inl q
        · exact Or.inr ⟨by omega, q2⟩
theorem pre_1 {k : Nat} {x : Nat → Nat} : pre k x 1 1 := ⟨Nat.le_refl _, Nat.le_refl _, fun j a b => by omega, fun j a b => by omega⟩
/-- behind a fault no row with the same beginning can be one -/
theorem f_no {k d f q : Nat} {x : Nat → Nat} (hx : ∀ i, x i < k) (hf : f < d) (hp : pre k x f q) (hlt : x f < x (f - q)) {w : Nat} (hw : w < k ^ d) (hb : w / k ^ (d - f) = rn k x f) (hle : w ≤ rn k x d) : ¬ PN k d w := by
  intro h
  have hk : 0 < k := Nat.lt_of_le_of_lt (Nat.zero_le _) (hx 0)
  obtain ⟨h1, h2, h3, h4⟩ := hp
  have hpn := Nat.div_le_div_right (c := k ^ (d - 1 - f)) (h q (by omega))
  rw [dv_dv, Nat.add_comm, ← dv_dv, md_dv (by omega), show d - q - (d - 1 - f) = f + 1 - q by omega] at hpn
  have ew : w / k ^ (d - 1 - f) = rn k x f * k + w / k ^ (d - 1 - f) % k := by
    have e1 := Nat.div_add_mod (w / k ^ (d - 1 - f)) k
    have e2 : w / k ^ (d - 1 - f) / k = rn k x f := by
      have : w / k ^ (d - 1 - f) / k ^ 1 = w / k ^ (d - 1 - f + 1) := dv_dv k w _ 1
      rw [Nat.pow_one] at this
      rw [this, show d - 1 - f + 1 = d - f by omega, hb]
    rw [e2, Nat.mul_comm] at e1
    exact e1.symm
  have ex : rn k x d / k ^ (d - 1 - f) = rn k x f * k + x f := by
    have := (rn_dm hx (n := d) (j := f + 1) (by omega)).1
    rw [show d - (f + 1) = d - 1 - f by omega] at this
    exact this
  have hwf : w / k ^ (d - 1 - f) % k ≤ x f := by
    have := Nat.div_le_div_right (c := k ^ (d - 1 - f)) hle
    rw [ex] at this
    omega
  have hcm : w / k ^ (d - 1 - f) % k < k := Nat.mod_lt _ hk
  generalize w / k ^ (d - 1 - f) % k = c at ew hwf hcm
  rw [ew, lst_dv hcm h1, lst_md hk hcm (by omega)] at hpn
  have e3 := (rn_dm hx (n := f) (j := f + 1 - q) (by omega)).1
  rw [show f - (f + 1 - q) = q - 1 by omega] at e3
  have e4 : rn k x f % k ^ (f + 1 - q - 1) = rn k x (f - q) := by
    have := (rn_dm hx (n := f) (j := q) h2).2
    rw [show f + 1 - q - 1 = f - q by omega, this]
    exact rn_cg (f - q) (fun j hj => by
      show x (j + q) = x j
      rw [h3 (j + q) (by omega) (by omega), Nat.add_sub_cancel])
  have e5 : rn k x (f + 1 - q) = rn k x (f - q) * k + x (f - q) := by rw [show f + 1 - q = f - q + 1 by omega]; rfl
  rw [e3, e4, e5] at hpn
  omega
