/-! CONTENT, pure: the mean over all turnings, over words that a turning keeps in a set -/
section BURP
variable {k n : Nat}
theorem csc {p q : Nat → Bool} : ∀ M, (∀ x, x < M → p x = q x) → cs p M = cs q M
  | 0, _ => rfl
  | M + 1, h => by
    show cs p M + (p M).toNat = cs q M + (q M).toNat
    rw [csc M (fun x hx => h x (by omega)), h M (by omega)]
theorem csz : ∀ M, cs (fun _ => false) M = 0
  | 0 => rfl
  | M + 1 => by show cs (fun _ => false) M + 0 = 0; rw [csz M]
theorem cs_lt2 {f : Nat → Nat} {q : Nat → Bool} {v : Nat} : ∀ M, cs (fun x => decide (f x < v + 1) && q x) M = cs (fun x => decide (f x < v) && q x) M + cs (fun x => decide (f x = v) && q x) M
  | 0 => rfl
  | M + 1 => by
    show cs (fun x => decide (f x < v + 1) && q x) M + (decide (f M < v + 1) && q M).toNat = cs (fun x => decide (f x < v) && q x) M + (decide (f M < v) && q M).toNat + (cs (fun x => decide (f x = v) && q x) M + (decide (f M = v) && q M).toNat)
    rw [cs_lt2 M]
    have : (decide (f M < v + 1) && q M).toNat = (decide (f M < v) && q M).toNat + (decide (f M = v) && q M).toNat := by
      rcases Nat.lt_trichotomy (f M) v with z | z | z
      · rw [decide_eq_true (p := f M < v + 1) (by omega), decide_eq_true z, decide_eq_false (p := f M = v) (by omega)]
        cases q M <;> rfl
      · rw [decide_eq_true (p := f M < v + 1) (by omega), decide_eq_false (p := f M < v) (by omega), decide_eq_true z]
        cases q M <;> rfl
      · rw [decide_eq_false (p := f M < v + 1) (by omega), decide_eq_false (p := f M < v) (by omega), decide_eq_false (p := f M = v) (by omega)]
        cases q M <;> rfl
    omega
def stQ (k d : Nat) (q : Nat → Bool) : Nat → Nat
  | 0 => 0
  | w + 1 => stQ k d q w + if lo k d w = w ∧ q w = true then sz k d w else 0
theorem q_lo {q : Nat → Bool} (ok : okW k n) (hq : ∀ x, x < k ^ n → q (tn k n x) = q x) {x : Nat} (hx : x < k ^ n) : q (lo k n x) = q x := by
  obtain ⟨s, -, h2⟩ := lm_in (k := k) (n := n) (w := x) (n - 1)
  have key : ∀ i, q (ti k n i x) = q x := by
    intro i
    induction i with
    | zero => rfl
    | succ i ih =>
      show q (tn k n (ti k n i x)) = q x
      rw [hq _ (ti_lt ok.pos ok.2.2.1 hx i), ih]
  show q (lm k n x (n - 1)) = q x
  rw [h2]
  exact key s
theorem stQ_cs {q : Nat → Bool} (ok : okW k n) (hq : ∀ x, x < k ^ n → q (tn k n x) = q x) : ∀ w, w ≤ k ^ n → stQ k n q w = cs (fun x => decide (lo k n x < w) && q x) (k ^ n)
  | 0, _ => by
    rw [csc (q := fun _ => false) _ (fun x _ => by rw [decide_eq_false (Nat.not_lt_zero _)]; rfl), csz]
    rfl
  | w + 1, h => by
    rw [cs_lt2, ← stQ_cs ok hq w (by omega)]
    show stQ k n q w + _ = stQ k n q w + _
    congr 1
    cases hw : q w with
    | true =>
      rw [csc (q := fun x => decide (lo k n x = w)) _ (fun x hx => by
        by_cases e : lo k n x = w
        · have := q_lo ok hq hx
          rw [e, hw] at this
          rw [decide_eq_true e, ← this]
          rfl
        · rw [decide_eq_false e]; rfl), cnt_lo ok (by omega)]
      by_cases e : lo k n w = w
      · rw [if_pos ⟨e, rfl⟩, if_pos e]
      · rw [if_neg (fun z => e z.1), if_neg e]
    | false =>
      rw [csc (q := fun _ => false) _ (fun x hx => by
        by_cases e : lo k n x = w
        · have := q_lo ok hq hx
          rw [e, hw] at this
          rw [← this, Bool.and_false]
        · rw [decide_eq_false e]; rfl), csz]
      exact if_neg (fun z => Bool.noConfusion z.2)
theorem stQ_N {q : Nat → Bool} (ok : okW k n) (hq : ∀ x, x < k ^ n → q (tn k n x) = q x) : stQ k n q (k ^ n) = cs q (k ^ n) := by
  rw [stQ_cs ok hq _ (Nat.le_refl _)]
  exact csc _ (fun x hx => by rw [decide_eq_true (lo_lt hx)]; rfl)
noncomputable def bP (k n : Nat) (p : Nat → Bool) (v i : Nat) : Nat := if n % (i + 1) = 0 then tot (n / (i + 1)) * stQ k (i + 1) (fun y => p (y * gg k n (i + 1))) (gd k n (i + 1) v) else 0
theorem burp {p : Nat → Bool} (ok : okW k n) : ∀ v, v ≤ k ^ n → su (bP k n p v) n = n * cs (fun w => decide (lo k n w = w) && p w) v
  | 0, _ => by
    show _ = n * 0
    rw [Nat.mul_zero]
    refine su_0 n (fun i hi => ?_)
    unfold bP
    by_cases hd : n % (i + 1) = 0
    · have hg := gg_p ok (show 1 ≤ i + 1 by omega) (show i + 1 ≤ n by omega) hd
      have := gd_y (k := k) (n := n) (d := i + 1) (y := 0) hg
      rw [Nat.zero_mul] at this
      rw [if_pos hd, this]
      exact Nat.mul_zero _
    · rw [if_neg hd]
  | v + 1, hv => by
    have ih := burp (p := p) ok v (by omega)
    have hvN : v < k ^ n := by omega
    have hn14 := ok.2.2.2.1
    obtain ⟨z1, z2, z3, z4⟩ := sz_sp ok hvN
    have hsn : n % sz k n v = 0 := (sz_dv ok hvN).mp (ti_n ok.pos hvN)
    have hr : cs (fun w => decide (lo k n w = w) && p w) (v + 1) = cs (fun w => decide (lo k n w = w) && p w) v + (decide (lo k n v = v) && p v).toNat := rfl
    have inc : ∀ i, i < n → bP k n p (v + 1) i = bP k n p v i + if lo k n v = v ∧ p v = true then (if n % (i + 1) = 0 ∧ (i + 1) % sz k n v = 0 then tot (n / (i + 1)) * sz k n v else 0) else 0 := by
      intro i hi
      unfold bP
      by_cases hd : n % (i + 1) = 0
      · have h1 : 1 ≤ i + 1 := by omega
        have h2 : i + 1 ≤ n := by omega
        have hg := gg_p ok h1 h2 hd
        rw [if_pos hd, if_pos hd, gd_s hg]
        by_cases hdv : v = v / gg k n (i + 1) * gg k n (i + 1)
        · generalize hy : v / gg k n (i + 1) = y at *
          have hyd : y < k ^ (i + 1) := Nat.lt_of_not_le (fun q => by
            have q2 := Nat.mul_le_mul_right (gg k n (i + 1)) q
            have e := gg_eq ok hd
            have hp := ok.pp (i + 1)
            have q3 : gg k n (i + 1) * (k ^ (i + 1) - 1) + gg k n (i + 1) = k ^ (i + 1) * gg k n (i + 1) := by
              rw [← Nat.mul_succ, Nat.mul_comm]
              congr 1
              omega
            omega)
          have e1 : gd k n (i + 1) v = y := by rw [hdv]; exact gd_y hg
          have e2 := lo_rp ok h1 h2 hd hyd
          have e3 := sz_rp ok h1 h2 hd hyd
          rw [← hdv] at e2 e3
          have e4 : (i + 1) % sz k n v = 0 := (sz_dv ok hvN).mp (by
            rw [hdv, ti_rp ok h1 h2 hd hyd, ti_n ok.pos hyd])
          rw [e1]
          show tot (n / (i + 1)) * (stQ k (i + 1) (fun y => p (y * gg k n (i + 1))) y + if lo k (i + 1) y = y ∧ p (y * gg k n (i + 1)) = true then sz k (i + 1) y else 0) = _
          rw [← hdv]
          by_cases hl : lo k n v = v ∧ p v = true
          · rw [if_pos ⟨e2.mp hl.1, hl.2⟩, if_pos hl, if_pos ⟨hd, e4⟩, Nat.mul_add, e3]
          · rw [if_neg (fun q => hl ⟨e2.mpr q.1, q.2⟩), if_neg hl]
            rfl
        · rw [gd_n hg hdv]
          have e4 : ¬ (i + 1) % sz k n v = 0 := fun q => hdv (by
            have := rp_of ok h1 h2 hd hvN ((sz_dv ok hvN).mpr q)
            generalize v / k ^ (n - (i + 1)) = y at this
            have e : v / gg k n (i + 1) = y := by rw [this]; exact Nat.mul_div_cancel _ hg
            rw [e]
            exact this)
          have e5 : ¬ (n % (i + 1) = 0 ∧ (i + 1) % sz k n v = 0) := fun q => e4 q.2
          rw [if_neg e5]
          split <;> rfl
      · have e5 : ¬ (n % (i + 1) = 0 ∧ (i + 1) % sz k n v = 0) := fun q => hd q.1
        rw [if_neg hd, if_neg hd, if_neg e5]
        split <;> rfl
    rw [su_add n inc, ih, hr, Nat.mul_add]
    congr 1
    by_cases hl : lo k n v = v ∧ p v = true
    · have e1 : (decide (lo k n v = v) && p v) = true := by rw [decide_eq_true hl.1, hl.2]; rfl
      rw [e1]
      simp only [if_pos hl]
      rw [tot_ok n (by omega) (sz k n v) (by omega) z1 ok.2.2.1 hsn]
      exact (Nat.mul_one n).symm
    · have e0 : (decide (lo k n v = v) && p v) = false := by
        by_cases e : lo k n v = v
        · cases hp : p v with
          | true => exact absurd ⟨e, hp⟩ hl
          | false => rw [Bool.and_false]
        · rw [decide_eq_false e]; rfl
      rw [e0]
      simp only [if_neg hl]
      rw [su_0 n (fun _ _ => rfl)]
      rfl
theorem burN {p : Nat → Bool} (ok : okW k n) (hp : ∀ x, x < k ^ n → p (tn k n x) = p x) : su (fun i => if n % (i + 1) = 0 then tot (n / (i + 1)) * cs (fun y => p (y * gg k n (i + 1))) (k ^ (i + 1)) else 0) n = n * cs (fun w => decide (lo k n w = w) && p w) (k ^ n) := by
  rw [← burp ok _ (Nat.le_refl _)]
  refine su_cg n (fun i hi => ?_)
  unfold bP
  by_cases hd : n % (i + 1) = 0
  · have h1 : 1 ≤ i + 1 := by omega
    have h2 : i + 1 ≤ n := by omega
    have hg := gg_p ok h1 h2 hd
    have e := gg_eq ok hd
    have hpp := ok.pp (i + 1)
    have eg : gd k n (i + 1) (k ^ n) = k ^ (i + 1) := by
      rw [← e, gd_s hg, Nat.mul_div_cancel_left _ hg]
      omega
    rw [if_pos hd, if_pos hd, eg, stQ_N (ok.sub h1 h2) (fun x hx => by
      show p (tn k (i + 1) x * gg k n (i + 1)) = p (x * gg k n (i + 1))
      rw [← tn_rp ok h1 h2 hd hx]
      exact hp _ (rp_lt ok h1 h2 hd hx))]
  · rw [if_neg hd, if_neg hd]
end BURP
