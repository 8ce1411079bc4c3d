/-! lowering: one step; the class's counter: contracts -/
/-- the last place below f whose letter isn't 0, or 0 -/
def lnz (x : Nat → Nat) : Nat → Nat
  | 0 => 0
  | j + 1 => if x (j + 1) = 0 then lnz x j else j + 1
theorem lnz_ok {x : Nat → Nat} : ∀ j, lnz x j ≤ j ∧ (∀ i, lnz x j < i → i ≤ j → x i = 0) ∧ ((∃ i, i ≤ j ∧ 0 < x i) → 0 < x (lnz x j))
  | 0 => ⟨Nat.le_refl _, fun i h1 h2 => by have : lnz x 0 = 0 := rfl; omega, fun ⟨i, h1, h2⟩ => by rw [show i = 0 by omega] at h2; exact h2⟩
  | j + 1 => by
    unfold lnz
    by_cases hc : x (j + 1) = 0
    · rw [if_pos hc]
      obtain ⟨a1, a2, a3⟩ := lnz_ok (x := x) j
      refine ⟨by omega, fun i h1 h2 => ?_, fun ⟨i, h1, h2⟩ => a3 ⟨i, ?_, h2⟩⟩
      · by_cases hij : i = j + 1
        · rw [hij]; exact hc
        · exact a2 i h1 (by omega)
      · by_cases hij : i = j + 1
        · rw [hij, hc] at h2; exact absurd h2 (Nat.lt_irrefl 0)
        · omega
    · rw [if_neg hc]
      exact ⟨Nat.le_refl _, fun i h1 h2 => by omega, fun _ => Nat.pos_of_ne_zero hc⟩
def dec (k : Nat) (x : Nat → Nat) (l : Nat) : Nat → Nat := fun i => if i < l then x i else if i = l then x l - 1 else k - 1
theorem rn_zero {k : Nat} {x : Nat → Nat} : ∀ e, (∀ i, i < e → x i = 0) → rn k x e = 0
  | 0, _ => rfl
  | e + 1, h => by
    show rn k x e * k + x e = 0
    rw [rn_zero e (fun i hi => h i (by omega)), h e (by omega), Nat.zero_mul]
theorem rn_dec {k d f : Nat} {x : Nat → Nat} (hk : 2 ≤ k) (hf1 : 1 ≤ f) (hf : f ≤ d) (hpos : 0 < x (lnz x (f - 1))) : rn k (dec k x (lnz x (f - 1))) d + 1 = rn k x f * k ^ (d - f) := by
  obtain ⟨a1, a2, -⟩ := lnz_ok (x := x) (f - 1)
  generalize hl : lnz x (f - 1) = l at *
  have e1 := rn_add (k := k) (x := dec k x l) (l + 1) (d - (l + 1))
  rw [show l + 1 + (d - (l + 1)) = d by omega] at e1
  have e2 := rn_max (k := k) (x := fun i => dec k x l (i + (l + 1))) hk (d - (l + 1)) (fun i hi => by
    show dec k x l (i + (l + 1)) = k - 1
    unfold dec
    rw [if_neg (by omega), if_neg (by omega)])
  have e3 : rn k (dec k x l) (l + 1) + 1 = rn k x (l + 1) := by
    show rn k (dec k x l) l * k + dec k x l l + 1 = rn k x l * k + x l
    have e4 : rn k (dec k x l) l = rn k x l := rn_cg l (fun i hi => if_pos hi)
    have e5 : dec k x l l = x l - 1 := by unfold dec; rw [if_neg (by omega), if_pos rfl]
    rw [e4, e5]
    omega
  have e6 : rn k x f = rn k x (l + 1) * k ^ (f - (l + 1)) := by
    have := rn_add (k := k) (x := x) (l + 1) (f - (l + 1))
    rw [show l + 1 + (f - (l + 1)) = f by omega, rn_zero (f - (l + 1)) (fun i hi => a2 _ (by omega) (by omega)), Nat.add_zero] at this
    exact this
  rw [e6, Nat.mul_assoc, ← Nat.pow_add, show f - (l + 1) + (d - f) = d - (l + 1) by omega, ← e3, Nat.add_mul, Nat.one_mul]
  omega
theorem dec_lt {k l : Nat} {x : Nat → Nat} (hk : 2 ≤ k) (hx : ∀ i, x i < k) : ∀ i, dec k x l i < k := fun i => by
  have h1 := hx i
  have h2 := hx l
  unfold dec
  split
  · exact h1
  · split <;> omega
abbrev ft1 (x : Nat → Nat) (d : Nat) : Nat := fft x d (d - 1) 1 1
/-- lowering, with so many tries -/
def lwr (k d : Nat) : Nat → (Nat → Nat) → (Nat → Nat)
  | 0, x => x
  | m + 1, x => if ft1 x d = d then x else lwr k d m (dec k x (lnz x (ft1 x d - 1)))
/-- what lowering does -/
def lws (k d : Nat) (x y : Nat → Nat) : Prop := (∀ i, y i < k) ∧ PN k d (rn k y d) ∧ rn k y d ≤ rn k x d ∧ ∀ w, w < k ^ d → rn k y d < w → w ≤ rn k x d → ¬ PN k d w
theorem lwr_ok {k d : Nat} (hk : 2 ≤ k) (hd : 1 ≤ d) : ∀ m x, (∀ i, x i < k) → (ft1 x d = d ∨ ft1 x d ≤ m) → 1 ≤ m → lws k d x (lwr k d m x) := by
  intro m
  induction m with
  | zero => intro x _ _ h; omega
  | succ m ih =>
    intro x hx hfm _
    unfold lwr
    rcases fft_ok (d := d) hx (d - 1) 1 1 (by omega) pre_1 with ⟨q1, q2⟩ | ⟨q0, q1, q, q2, q3⟩
    · rw [if_pos q1]
      exact ⟨hx, q2, Nat.le_refl _, fun w _ w1 w2 => by omega⟩
    · have hne : ¬ ft1 x d = d := fun z => by
        have z2 : fft x d (d - 1) 1 1 = d := z
        omega
      rw [if_neg hne]
      generalize hff : ft1 x d = f at *
      have hf : fft x d (d - 1) 1 1 = f := hff
      rw [hf] at q0 q1 q2 q3
      have hpos : 0 < x (lnz x (f - 1)) := (lnz_ok (x := x) (f - 1)).2.2 ⟨f - q, by have := q2.1; omega, by omega⟩
      have hrn := rn_dec (d := d) hk q0 (Nat.le_of_lt q1) hpos
      have hdx := dec_lt (l := lnz x (f - 1)) hk hx
      have hl := (lnz_ok (x := x) (f - 1)).1
      have hXf := (rn_dm hx (n := d) (j := f) (by omega)).1
      have hge : rn k x f * k ^ (d - f) ≤ rn k x d := by
        rw [← hXf]
        exact Nat.div_mul_le_self _ _
      -- the fault comes nearer the beginning
      have hfn : ft1 (dec k x (lnz x (f - 1))) d = d ∨ ft1 (dec k x (lnz x (f - 1))) d ≤ m := by
        rcases fft_ok (d := d) hdx (d - 1) 1 1 (by omega) pre_1 with ⟨r1, -⟩ | ⟨r0, r1, r, r2, r3⟩
        · exact Or.inl r1
        · refine Or.inr ?_
          have hlt : ft1 (dec k x (lnz x (f - 1))) d ≤ lnz x (f - 1) := Nat.le_of_not_lt (fun z => by
            have e : dec k x (lnz x (f - 1)) (fft (dec k x (lnz x (f - 1))) d (d - 1) 1 1) = k - 1 := by
              have z2 : lnz x (f - 1) < fft (dec k x (lnz x (f - 1))) d (d - 1) 1 1 := z
              unfold dec
              unfold dec at z2
              rw [if_neg (by omega), if_neg (by omega)]
            rw [e] at r3
            have := hdx (fft (dec k x (lnz x (f - 1))) d (d - 1) 1 1 - r)
            omega)
          rcases hfm with z | z
          · omega
          · omega
      have hm1 : 1 ≤ m ∨ m = 0 := by omega
      rcases hm1 with hm1 | hm0
      · obtain ⟨s1, s2, s3, s4⟩ := ih _ hdx hfn hm1
        refine ⟨s1, s2, by omega, fun w w0 w1 w2 => ?_⟩
        by_cases hw : w ≤ rn k (dec k x (lnz x (f - 1))) d
        · exact s4 w w0 w1 hw
        · refine f_no hx q1 q2 q3 w0 ?_ w2
          apply Nat.le_antisymm
          · rw [← hXf]; exact Nat.div_le_div_right w2
          · rw [Nat.le_div_iff_mul_le (Nat.pow_pos (by omega))]; omega
      · -- one try: the fault is at 1, and behind it there is none
        rcases hfn with z | z
        · rw [hm0]
          show lws k d x (dec k x (lnz x (f - 1)))
          rcases fft_ok (d := d) hdx (d - 1) 1 1 (by omega) pre_1 with ⟨r1, r2⟩ | ⟨r0, r1, -⟩
          · refine ⟨hdx, r2, by omega, fun w w0 w1 w2 => ?_⟩
            refine f_no hx q1 q2 q3 w0 ?_ w2
            apply Nat.le_antisymm
            · rw [← hXf]; exact Nat.div_le_div_right w2
            · rw [Nat.le_div_iff_mul_le (Nat.pow_pos (by omega))]; omega
          · have : fft (dec k x (lnz x (f - 1))) d (d - 1) 1 1 = d := z
            omega
        · rcases fft_ok (d := d) hdx (d - 1) 1 1 (by omega) pre_1 with ⟨r1, r2⟩ | ⟨r0, r1, -⟩
          · have : ft1 (dec k x (lnz x (f - 1))) d = d := r1
            omega
          · have : fft (dec k x (lnz x (f - 1))) d (d - 1) 1 1 ≤ m := z
            omega
