/-! RECURRENCE, pure: what is told is what the class holds -/
theorem su_1m {F : Nat → Nat} {k c : Nat} : ∀ q, c < q → (∀ i, i < q → i ≠ c → F i % k = 0) → su F q % k = F c % k
  | 0, h, _ => by omega
  | q + 1, h, hz => by
    show (su F q + F q) % k = _
    by_cases e : c = q
    · rw [Nat.add_mod, su_m0 q (fun i hi => hz i (by omega) (by omega)), Nat.zero_add, Nat.mod_mod, e]
    · rw [Nat.add_mod, hz q (by omega) (by omega), Nat.add_zero, Nat.mod_mod]
      exact su_1m q (by omega) (fun i hi => hz i (by omega))
theorem su_2m {F : Nat → Nat} {k c d : Nat} : ∀ q, c < q → d < q → c ≠ d → (∀ i, i < q → i ≠ c → i ≠ d → F i % k = 0) → su F q % k = (F c + F d) % k
  | 0, h, _, _, _ => by omega
  | q + 1, h1, h2, h3, hz => by
    show (su F q + F q) % k = _
    by_cases e : c = q
    · rw [Nat.add_mod, su_1m (c := d) q (by omega) (fun i hi hn => hz i (by omega) (by omega) hn), ← Nat.add_mod, e, Nat.add_comm]
    · by_cases e2 : d = q
      · rw [Nat.add_mod, su_1m (c := c) q (by omega) (fun i hi hn => hz i (by omega) hn (by omega)), ← Nat.add_mod, e2]
      · rw [Nat.add_mod, hz q (by omega) (by omega) (by omega), Nat.add_zero, Nat.mod_mod]
        exact su_2m q (by omega) (by omega) h3 (fun i hi => hz i (by omega))
theorem ng_eq {k a b : Nat} (ha : a < k) (hb : b < k) (h : (a + b) % k = 0) : b = (k - a) % k := by
  by_cases h1 : a + b < k
  · rw [Nat.mod_eq_of_lt h1] at h
    rw [show a = 0 by omega, Nat.sub_zero, Nat.mod_self]
    omega
  · rw [Nat.mod_eq_sub_mod (by omega), Nat.mod_eq_of_lt (by omega)] at h
    rw [Nat.mod_eq_of_lt (by omega)]
    omega
/-- the rows that stand at first -/
def mz0 (s : Nat → Nat) (L : Nat) : Nat → Nat → Nat := fun r j => if j = L then s (L + r) else s (L + r - 1 - j)
def tlz (kp : Nat → Option Nat) (M : Nat → Nat → Nat) (L c : Nat) : Nat := match kp c with
  | none => 0
  | some d => M d L
section SOL
variable {k : Nat} {s : Nat → Nat} {N L eg sh i1 L2 : Nat} {nw ea x : Nat → Nat} {M : Nat → Nat → Nat} {dn : Nat} {kp : Nat → Option Nat}
theorem free_ok (hp : k = 2 ∨ k = 3 ∨ k = 5) (h : BI k s N nw ea L eg sh i1 L2) (hx : LO k s N L sh (sh + (2 * L - N)) x) (hS : SI k (N - L) L (mz0 s L) 0 M dn kp) {c : Nat} (hc : c < L) (hkc : kp c = none) : x (c + 1) = 0 := by
  obtain ⟨a1, a2, a3, a4, a5, a6, a7, a8, a9, b1, b2, b3, b4, b5⟩ := h
  obtain ⟨d1, d2, d3, d4, d5, d6, d7, d8, d9⟩ := hS
  obtain ⟨c1, c2, c3, c4, c5⟩ := hx
  have hk1 : 1 % k = 1 := Nat.mod_eq_of_lt (by omega)
  obtain ⟨y, hy⟩ : ∃ y : Nat → Nat, ∀ j, y j = if L ≤ j then 0 else if j = c then 1 else match kp j with | some d => (k - M d c) % k | none => 0 := ⟨_, fun _ => rfl⟩
  have y1 : y L = 0 := by rw [hy L, if_pos (Nat.le_refl _)]
  have y2 : y c = 1 := by rw [hy c, if_neg (by omega), if_pos rfl]
  have y3 : ∀ j, j < L → j ≠ c → kp j = none → y j = 0 := fun j q1 q2 q3 => by rw [hy j, if_neg (by omega), if_neg q2, q3]
  have y4 : ∀ j d, j < L → j ≠ c → kp j = some d → y j = (k - M d c) % k := fun j d q1 q2 q3 => by rw [hy j, if_neg (by omega), if_neg q2, q3]
  have yl : ∀ j, j < c → y j = 0 := fun j hj => by
    cases hkj : kp j with
    | none => exact y3 j (by omega) (by omega) hkj
    | some d => rw [y4 j d (by omega) (by omega) hkj, d7 c j d (Nat.zero_le _) hj hc hkc hkj, Nat.sub_zero, Nat.mod_self]
  have ann : Ann k (N - L) L (mz0 s L) y := by
    rw [d3 y]
    intro r hr
    show (su (fun j => M r j * y j) L + M r L * y L) % k = 0
    rw [y1, Nat.mul_zero, Nat.add_zero]
    by_cases hrd : r < dn
    · obtain ⟨j0, -, j2, j3⟩ := d9 r hrd
      have hne : c ≠ j0 := fun e => by rw [← e, hkc] at j3; exact absurd j3 (by simp)
      have hs := su_2m (k := k) (F := fun j => M r j * y j) L hc j2 hne (fun i i1 i2 i3 => by
        show M r i * y i % k = 0
        cases hki : kp i with
        | none => rw [y3 i i1 i2 hki, Nat.mul_zero, Nat.zero_mod]
        | some d =>
          have hrd2 : r ≠ d := fun e => i3 (d8 i j0 r (Nat.zero_le _) i1 (Nat.zero_le _) j2 (by rw [hki, e]) j3)
          rw [(d5 i d (Nat.zero_le _) i1 hki).2.2 r hr hrd2, Nat.zero_mul, Nat.zero_mod])
      rw [hs]
      show (M r c * y c + M r j0 * y j0) % k = 0
      have hlt := d2 r c hr (by omega)
      rw [y2, y4 j0 r j2 (Ne.symm hne) j3, (d5 j0 r (Nat.zero_le _) j2 j3).2.1, Nat.mul_one, Nat.one_mul, Nat.add_mod_mod, show M r c + (k - M r c) = k by omega, Nat.mod_self]
    · refine su_m0 _ (fun i hi => ?_)
      have hM : M r i = 0 := by
        cases hki : kp i with
        | none => exact d6 i (Nat.zero_le _) hi hki r (by omega) hr
        | some d =>
          obtain ⟨q1, q2, q3⟩ := d5 i d (Nat.zero_le _) hi hki
          exact q3 r hr (by omega)
      show M r i * y i % k = 0
      rw [hM, Nat.zero_mul, Nat.zero_mod]
  have gz : ∀ t, L - 1 - c ≤ t → t < N - 1 - c → cvs s (fun p => y (c + p)) (L - 1 - c) t % k = 0 := by
    intro t t1 t2
    have hr := ann (t - (L - 1 - c)) (by omega)
    have e : rsm L (mz0 s L (t - (L - 1 - c))) y = cvs s (fun p => y (c + p)) (L - 1 - c) t := by
      show su (fun j => mz0 s L (t - (L - 1 - c)) j * y j) L + mz0 s L (t - (L - 1 - c)) L * y L = _
      rw [y1, Nat.mul_zero, Nat.add_zero]
      have q := su_lo (F := fun j => mz0 s L (t - (L - 1 - c)) j * y j) c (L - 1 - c + 1) (fun i hi => by show _ * y i = 0; rw [yl i hi, Nat.mul_zero])
      rw [show c + (L - 1 - c + 1) = L by omega] at q
      rw [q]
      unfold cvs
      refine su_cg _ (fun p hp => ?_)
      show mz0 s L (t - (L - 1 - c)) (c + p) * y (c + p) = y (c + p) * s (t - p)
      rw [show mz0 s L (t - (L - 1 - c)) (c + p) = s (t - p) from (if_neg (by omega)).trans (congrArg s (by omega)), Nat.mul_comm]
    rw [e] at hr
    exact hr
  have g0 : (fun p => y (c + p)) 0 % k ≠ 0 := by
    show y (c + 0) % k ≠ 0
    rw [Nat.add_zero, y2, hk1]
    decide
  have s1 : sh ≤ c + 1 := by
    apply Classical.byContradiction
    intro hn
    exact b4 (L - 1 - c) _ (by omega) g0 (fun t t1 t2 => gz t t1 (by omega))
  have s2 : c + 1 + L2 ≤ L := by
    apply Classical.byContradiction
    intro hn
    have hex : ∃ t, L - 1 - c ≤ t ∧ t + 1 < i1 ∧ cvs s (fun p => y (c + p)) (L - 1 - c) t % k ≠ 0 := by
      apply Classical.byContradiction
      intro hno
      exact b5 (L - 1 - c) _ (by omega) g0 (fun t t1 t2 => Classical.byContradiction fun q => hno ⟨t, t1, t2, q⟩)
    obtain ⟨m, ⟨m1, m2, m3⟩, m4⟩ := pk_least _ hex
    have m5 : N - 1 - c ≤ m := by
      apply Classical.byContradiction
      intro q
      exact m3 (gz m m1 (by omega))
    have hcr := cross (fld_ok hp) (a := L - 1 - c) (b := L2) (g := fun p => y (c + p)) (f := ea) (s := s) (m := m) (fun t t1 t2 => Classical.byContradiction fun q => m4 t t2 ⟨t1, by omega, q⟩) m3 (fun t t1 t2 => (b3 (by omega)).1 t t1 (by omega)) (by rw [a7, hk1]; decide)
    omega
  exact c5 (c + 1) s1 (by omega)
theorem told_ok (hp : k = 2 ∨ k = 3 ∨ k = 5) (h : BI k s N nw ea L eg sh i1 L2) (hx : LO k s N L sh (sh + (2 * L - N)) x) (hS : SI k (N - L) L (mz0 s L) 0 M dn kp) {c : Nat} (hc : c < L) : tlz kp M L c = (k - x (c + 1)) % k := by
  have hfr := fun j (hj : j < L) (hkj : kp j = none) => free_ok hp h hx hS hj hkj
  cases hkc : kp c with
  | none =>
    unfold tlz
    rw [hkc, hfr c hc hkc, Nat.sub_zero, Nat.mod_self]
  | some d =>
    unfold tlz
    rw [hkc]
    show M d L = _
    obtain ⟨a1, -⟩ := h
    obtain ⟨d1, d2, d3, d4, d5, d6, d7, d8, d9⟩ := hS
    obtain ⟨c1, c2, c3, c4, c5⟩ := hx
    obtain ⟨q1, q2, q3⟩ := d5 c d (Nat.zero_le _) hc hkc
    have hdR : d < N - L := by omega
    obtain ⟨v, hv⟩ : ∃ v : Nat → Nat, ∀ j, v j = if j = L then 1 else x (j + 1) := ⟨_, fun _ => rfl⟩
    have v1 : v L = 1 := by rw [hv, if_pos rfl]
    have v2 : ∀ j, j < L → v j = x (j + 1) := fun j hj => by rw [hv, if_neg (by omega)]
    have ann : Ann k (N - L) L (mz0 s L) v := by
      intro r hr
      have e : rsm L (mz0 s L r) v = cvs s x L (L + r) := by
        unfold cvs
        rw [su_hd]
        show su (fun j => mz0 s L r j * v j) L + mz0 s L r L * v L = su (fun p => x (p + 1) * s (L + r - (p + 1))) L + x 0 * s (L + r - 0)
        rw [v1, c2, show mz0 s L r L = s (L + r) from if_pos rfl, Nat.mul_one, Nat.one_mul, Nat.sub_zero]
        congr 1
        refine su_cg _ (fun j hj => ?_)
        show mz0 s L r j * v j = x (j + 1) * s (L + r - (j + 1))
        rw [v2 j hj, show mz0 s L r j = s (L + r - (j + 1)) from (if_neg (by omega)).trans (congrArg s (by omega)), Nat.mul_comm]
      rw [e]
      exact c4 (L + r) (by omega) (by omega)
    have hr := (d3 v).mp ann d hdR
    have e2 : rsm L (M d) v = su (fun j => M d j * v j) L + M d L * v L := rfl
    rw [e2, Nat.add_mod, su_1m (c := c) L hc (fun i j1 j2 => by
      show M d i * v i % k = 0
      cases hki : kp i with
      | none => rw [v2 i j1, hfr i j1 hki, Nat.mul_zero, Nat.zero_mod]
      | some e =>
        have hde : d ≠ e := fun z => j2 (d8 i c d (Nat.zero_le _) j1 (Nat.zero_le _) hc (by rw [hki, z]) hkc)
        rw [(d5 i e (Nat.zero_le _) j1 hki).2.2 d hdR hde, Nat.zero_mul, Nat.zero_mod]), ← Nat.add_mod, v1, q2, v2 c hc, Nat.one_mul, Nat.mul_one] at hr
    exact ng_eq (c1 (c + 1)) (d2 d L hdR (Nat.le_refl _)) hr
end SOL
