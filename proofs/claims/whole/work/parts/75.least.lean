/-! rings: how many words; the letters of the least round -/
theorem itr_ti (k n x : Nat) : ∀ i, itr (tn k n) i x = ti k n i x
  | 0 => rfl
  | i + 1 => by
    show tn k n (itr (tn k n) i x) = tn k n (ti k n i x)
    rw [itr_ti k n x i]
section RS
variable {k n : Nat}
theorem tn_pm (ok : okW k n) : pm (k ^ n) (tn k n) := by
  refine ⟨fun x hx => ti_lt ok.pos ok.2.2.1 hx 1, fun x y hx hy e => ?_⟩
  have key : ∀ z, z < k ^ n → ti k n (n - 1) (tn k n z) = z := fun z hz => by
    have h := ti_add k n z 1 (n - 1)
    rw [show 1 + (n - 1) = n by have := ok.2.2.1; omega, ti_n ok.pos hz] at h
    exact h.symm
  rw [← key x hx, ← key y hy, e]
theorem lo_rel {x : Nat} : rel (tn k n) x (lo k n x) := by
  obtain ⟨s, -, h2⟩ := lm_in (k := k) (n := n) (w := x) (n - 1)
  exact ⟨s, by rw [itr_ti]; exact h2.symm⟩
theorem lo_min (ok : okW k n) {x y : Nat} (hx : x < k ^ n) (h : rel (tn k n) x y) : lo k n x ≤ y := by
  obtain ⟨i, rfl⟩ := h
  rw [itr_ti, ti_mod (ti_n ok.pos hx) i]
  have hm := Nat.mod_lt i (show 0 < n from ok.2.2.1)
  exact lm_ti (n - 1) (i % n) (by omega)
theorem lo_lo (ok : okW k n) {x : Nat} (hx : x < k ^ n) : lo k n (lo k n x) = lo k n x := by
  have h1 := lm_le k n (lo k n x) (n - 1)
  have h2 := lo_min ok hx (rel_tr (lo_rel (x := x)) (lo_rel (x := lo k n x)))
  have h3 : lo k n (lo k n x) ≤ lo k n x := h1
  omega
theorem lo_iff (ok : okW k n) {v x : Nat} (hv : v < k ^ n) (hx : x < k ^ n) (hl : lo k n v = v) : lo k n x = v ↔ rel (tn k n) v x := by
  constructor
  · intro e
    have := rel_sy (tn_pm ok) hx (lo_rel (x := x))
    rw [e] at this
    exact this
  · intro h
    have h1 := lo_min ok hx (rel_sy (tn_pm ok) hv h)
    have h2 := lo_min ok hv (rel_tr h (lo_rel (x := x)))
    omega
abbrev sz (k n w : Nat) : Nat := rz k n w (n - 1) 1
theorem rz_le {w : Nat} : ∀ f s, rz k n w f s ≤ s + f
  | 0, s => Nat.le_refl _
  | f + 1, s => by
    unfold rz
    split
    · omega
    · have := rz_le (w := w) f (s + 1)
      omega
theorem rz_ge {w : Nat} : ∀ f s, s ≤ rz k n w f s
  | 0, s => Nat.le_refl _
  | f + 1, s => by
    unfold rz
    split
    · exact Nat.le_refl _
    · have := rz_ge (w := w) f (s + 1)
      omega
theorem cnt_lo (ok : okW k n) {v : Nat} (hv : v < k ^ n) : cs (fun x => decide (lo k n x = v)) (k ^ n) = if lo k n v = v then sz k n v else 0 := by
  by_cases hl : lo k n v = v
  · rw [if_pos hl]
    obtain ⟨p, hp, hmin⟩ := per (tn_pm ok) hv
    have hpn : p ≤ n := Nat.le_of_not_lt (fun q => hmin n q ⟨ok.2.2.1, Nat.le_of_lt (n_lt_pow ok.1 n), by rw [itr_ti]; exact ti_n ok.pos hv⟩)
    rw [cyc_cs (tn_pm ok) hv hp hmin (fun y hy => by rw [decide_eq_true_iff]; exact lo_iff ok hv hy hl)]
    have h3 := hp.2.2
    rw [itr_ti] at h3
    refine (rz_eq (n - 1) 1 hp.1 (by omega) (fun i i1 i2 e => hmin i i2 ⟨i1, by omega, by rw [itr_ti]; exact e⟩) h3).symm
  · rw [if_neg hl]
    have key : ∀ M, M ≤ k ^ n → cs (fun x => decide (lo k n x = v)) M = 0 := by
      intro M
      induction M with
      | zero => intro _; rfl
      | succ M ih =>
        intro hM
        show cs (fun x => decide (lo k n x = v)) M + (decide (lo k n M = v)).toNat = 0
        rw [ih (by omega), decide_eq_false (fun q => hl (by rw [← q]; exact lo_lo ok (by omega)))]
        rfl
    exact key _ (Nat.le_refl _)
def stA (k n : Nat) : Nat → Nat
  | 0 => 0
  | w + 1 => stA k n w + if lo k n w = w then sz k n w else 0
def stF (k n : Nat) : Nat → Nat → Nat
  | 0, _ => 0
  | w + 1, j => if lo k n w = w then (if stA k n w ≤ j ∧ j < stA k n w + sz k n w then w / k ^ (n - 1 - (j - stA k n w)) % k else stF k n w j) else stF k n w j
theorem cs_lt1 {f : Nat → Nat} {v : Nat} : ∀ M, cs (fun x => decide (f x < v + 1)) M = cs (fun x => decide (f x < v)) M + cs (fun x => decide (f x = v)) M
  | 0 => rfl
  | M + 1 => by
    show cs (fun x => decide (f x < v + 1)) M + (decide (f M < v + 1)).toNat = cs (fun x => decide (f x < v)) M + (decide (f M < v)).toNat + (cs (fun x => decide (f x = v)) M + (decide (f M = v)).toNat)
    rw [cs_lt1 M]
    rcases Nat.lt_trichotomy (f M) v with q | q | q
    · rw [decide_eq_true (p := f M < v + 1) (by omega), decide_eq_true q, decide_eq_false (p := f M = v) (by omega)]
      simp only [Bool.toNat_true, Bool.toNat_false]
      omega
    · rw [decide_eq_true (p := f M < v + 1) (by omega), decide_eq_false (p := f M < v) (by omega), decide_eq_true q]
      simp only [Bool.toNat_true, Bool.toNat_false]
      omega
    · rw [decide_eq_false (p := f M < v + 1) (by omega), decide_eq_false (p := f M < v) (by omega), decide_eq_false (p := f M = v) (by omega)]
      simp only [Bool.toNat_false]
      omega
theorem stA_cs (ok : okW k n) : ∀ w, w ≤ k ^ n → stA k n w = cs (fun x => decide (lo k n x < w)) (k ^ n)
  | 0, _ => by
    have : ∀ M, cs (fun x => decide (lo k n x < 0)) M = 0 := by
      intro M
      induction M with
      | zero => rfl
      | succ M ih =>
        show cs (fun x => decide (lo k n x < 0)) M + (decide (lo k n M < 0)).toNat = 0
        rw [ih, decide_eq_false (Nat.not_lt_zero _)]
        rfl
    rw [this]
    rfl
  | w + 1, h => by
    rw [cs_lt1, cnt_lo ok (by omega), ← stA_cs ok w (by omega)]
    rfl
theorem stA_le (ok : okW k n) {w : Nat} (hw : w ≤ k ^ n) : stA k n w ≤ k ^ n := by rw [stA_cs ok w hw]; exact cs_le _ _
theorem stA_N (ok : okW k n) : stA k n (k ^ n) = k ^ n := by
  rw [stA_cs ok _ (Nat.le_refl _)]
  exact cs_all _ (fun x hx => decide_eq_true (lo_lt hx))
theorem stA_mono (k n a : Nat) : ∀ b, stA k n a ≤ stA k n (a + b)
  | 0 => Nat.le_refl _
  | b + 1 => Nat.le_trans (stA_mono k n a b) (Nat.le_add_right _ _)
theorem stF_st (a : Nat) {j : Nat} (hj : j < stA k n a) : ∀ b, stF k n (a + b) j = stF k n a j
  | 0 => rfl
  | b + 1 => by
    have h1 := stA_mono k n a b
    show (if lo k n (a + b) = a + b then (if stA k n (a + b) ≤ j ∧ j < stA k n (a + b) + sz k n (a + b) then (a + b) / k ^ (n - 1 - (j - stA k n (a + b))) % k else stF k n (a + b) j) else stF k n (a + b) j) = _
    split
    · rw [if_neg (by omega)]; exact stF_st a hj b
    · exact stF_st a hj b
theorem st_sk (a : Nat) : ∀ b, (∀ w, a ≤ w → w < a + b → ¬ lo k n w = w) → stA k n (a + b) = stA k n a ∧ stF k n (a + b) = stF k n a
  | 0, _ => ⟨rfl, rfl⟩
  | b + 1, h => by
    obtain ⟨h1, h2⟩ := st_sk a b (fun w a1 a2 => h w a1 (by omega))
    have hn := h (a + b) (by omega) (by omega)
    refine ⟨?_, ?_⟩
    · show stA k n (a + b) + (if lo k n (a + b) = a + b then sz k n (a + b) else 0) = _
      rw [if_neg hn, h1]
      rfl
    · funext j
      show (if lo k n (a + b) = a + b then _ else stF k n (a + b) j) = _
      rw [if_neg hn, h2]
theorem stF_lt (hk : 0 < k) : ∀ w j, stF k n w j < k
  | 0, _ => hk
  | w + 1, j => by
    show (if lo k n w = w then (if stA k n w ≤ j ∧ j < stA k n w + sz k n w then w / k ^ (n - 1 - (j - stA k n w)) % k else stF k n w j) else stF k n w j) < k
    split
    · split
      · exact Nat.mod_lt _ hk
      · exact stF_lt hk w j
    · exact stF_lt hk w j
theorem ti_0 (k n : Nat) : ∀ i, ti k n i 0 = 0
  | 0 => rfl
  | i + 1 => by
    show tn k n (ti k n i 0) = 0
    rw [ti_0 k n i, tn, Nat.zero_mod, Nat.zero_mul, Nat.zero_div]
theorem st_z (ok : okW k n) : ∀ j, j < n → stF k n (k ^ n) j = 0 := by
  have hk := ok.1
  have hn := ok.2.2.1
  have h0 := ok.pp n
  have l0 : lo k n 0 = 0 := Nat.le_zero.mp (lm_le k n 0 (n - 1))
  have s0 : sz k n 0 = 1 := rz_eq (n - 1) 1 (Nat.le_refl _) (by omega) (fun i h1 h2 => absurd h1 (by omega)) (ti_0 k n 1)
  have a1 : stA k n 1 = 1 := by show 0 + (if lo k n 0 = 0 then sz k n 0 else 0) = 1; rw [if_pos l0, s0]
  have f1 : stF k n 1 0 = 0 := by
    show (if lo k n 0 = 0 then (if stA k n 0 ≤ 0 ∧ 0 < stA k n 0 + sz k n 0 then 0 / k ^ (n - 1 - (0 - stA k n 0)) % k else stF k n 0 0) else stF k n 0 0) = 0
    rw [if_pos l0]
    split
    · rw [Nat.zero_div, Nat.zero_mod]
    · rfl
  by_cases hn1 : n = 1
  · intro j hj
    have hj0 : j = 0 := by omega
    have := stF_st (k := k) (n := n) 1 (j := 0) (by rw [a1]; exact Nat.one_pos) (k ^ n - 1)
    rw [show 1 + (k ^ n - 1) = k ^ n by omega] at this
    rw [hj0, this, f1]
  · have hN2 : 2 ≤ k ^ n := by have := n_lt_pow hk n; omega
    have t1 : ∀ i, 1 ≤ i → i < n → ti k n i 1 = k ^ i := fun i h1 h2 => by
      have hp2 : 1 < k ^ (n - i) := Nat.one_lt_pow (by omega) (by omega)
      rw [ti_eq (by omega) (by omega) i (by omega), Nat.mod_eq_of_lt hp2, Nat.div_eq_of_lt hp2, Nat.one_mul, Nat.add_zero]
    have l1 : lo k n 1 = 1 := lo_of (by omega) hn (by omega) (fun i hi => by
      rcases Nat.eq_zero_or_pos i with q | q
      · rw [q]; exact Nat.le_refl _
      · rw [t1 i q hi]; exact Nat.pow_pos (by omega))
    have s1 : sz k n 1 = n := rz_eq (n - 1) 1 hn (by omega) (fun i h1 h2 e => by
      rw [t1 i h1 h2] at e
      have : 1 < k ^ i := Nat.one_lt_pow (by omega) (by omega)
      omega) (ti_n (by omega) (by omega))
    have a2 : stA k n 2 = 1 + n := by show stA k n 1 + (if lo k n 1 = 1 then sz k n 1 else 0) = 1 + n; rw [if_pos l1, s1, a1]
    intro j hj
    have := stF_st (k := k) (n := n) 2 (j := j) (by rw [a2]; omega) (k ^ n - 2)
    rw [show 2 + (k ^ n - 2) = k ^ n by omega] at this
    rw [this]
    show (if lo k n 1 = 1 then (if stA k n 1 ≤ j ∧ j < stA k n 1 + sz k n 1 then 1 / k ^ (n - 1 - (j - stA k n 1)) % k else stF k n 1 j) else stF k n 1 j) = 0
    rw [if_pos l1, a1, s1]
    by_cases hj0 : j = 0
    · rw [if_neg (by omega), hj0, f1]
    · rw [if_pos (by omega), Nat.div_eq_of_lt (Nat.one_lt_pow (by omega) (by omega)), Nat.zero_mod]
theorem st_wv (ok : okW k n) : wv k (stF k n (k ^ n)) (k ^ n) 0 n = 0 := by
  have hnN := n_lt_pow ok.1 n
  have key : ∀ j, j ≤ n → wv k (stF k n (k ^ n)) (k ^ n) 0 j = 0 := by
    intro j
    induction j with
    | zero => intro _; rfl
    | succ j ih =>
      intro hj
      show wv k (stF k n (k ^ n)) (k ^ n) 0 j * k + stF k n (k ^ n) ((0 + j) % k ^ n) = 0
      rw [ih (by omega), Nat.zero_mul, Nat.zero_add, Nat.zero_add, Nat.mod_eq_of_lt (by omega), st_z ok j (by omega)]
  exact key n (Nat.le_refl _)
end RS
