/-! JOINING: pure -/
noncomputable def jB (T : Nat → Nat) (a b : Nat) : Bool := @decide (rel T a b) (Classical.propDecidable _)
theorem jB_iff {T : Nat → Nat} {a b : Nat} : rel T a b ↔ jB T a b = true := by
  unfold jB
  exact (@decide_eq_true_iff _ (Classical.propDecidable _)).symm
noncomputable def jn (hi : Nat) : Nat → Nat → (Nat → Nat) → Nat → (Nat → Int32) → (Nat → Int32) → (Nat → Nat) × Nat × (Nat → Int32) × (Nat → Int32)
  | 0, _, T, E, o1, o2 => (T, E, o1, o2)
  | m + 1, w, T, E, o1, o2 => if jB T w (w + hi) = true then jn hi m (w + 1) T E o1 o2 else jn hi m (w + 1) (sw T w (w + hi)) (E + 1) (upd o1 E (nI w)) (upd o2 E (nI (w + hi)))
theorem jn_sum {N hi : Nat} (hN : N ≤ 20000) : ∀ m w T E o1 o2, pm N T → w + m + hi ≤ N → pm N (jn hi m w T E o1 o2).1 ∧ (jn hi m w T E o1 o2).2.1 + nQ (jn hi m w T E o1 o2).1 N = E + nQ T N ∧ ∀ x y, x < N → rel T x y → rel (jn hi m w T E o1 o2).1 x y
  | 0, w, T, E, o1, o2, h, _ => ⟨h, rfl, fun _ _ _ q => q⟩
  | m + 1, w, T, E, o1, o2, h, hw => by
    unfold jn
    cases hb : jB T w (w + hi) with
    | true =>
      rw [if_pos rfl]
      exact jn_sum hN m (w + 1) T E o1 o2 h (by omega)
    | false =>
      rw [if_neg (by decide)]
      have hd : ¬ rel T w (w + hi) := fun q => by rw [jB_iff, hb] at q; exact absurd q (by decide)
      have h' := sw_pm h (a := w) (b := w + hi) (by omega) (by omega)
      obtain ⟨a1, a2, a3⟩ := jn_sum (hi := hi) hN m (w + 1) (sw T w (w + hi)) (E + 1) (upd o1 E (nI w)) (upd o2 E (nI (w + hi))) h' (by omega)
      refine ⟨a1, ?_, fun x y hx q => a3 x y hx ((merge h (by omega) (by omega) hd hx).mpr (Or.inl q))⟩
      have := cnt_merge h (a := w) (b := w + hi) (by omega) (by omega) hd
      rw [a2, nQ_cs h' hN, nQ_cs h hN]
      omega
theorem jn_joined {N hi : Nat} (hN : N ≤ 20000) : ∀ m w T E o1 o2, pm N T → w + m + hi ≤ N → ∀ x, w ≤ x → x < w + m → rel (jn hi m w T E o1 o2).1 x (x + hi)
  | 0, w, T, E, o1, o2, _, _, x, h1, h2 => absurd h1 (by omega)
  | m + 1, w, T, E, o1, o2, h, hw, x, h1, h2 => by
    unfold jn
    cases hb : jB T w (w + hi) with
    | true =>
      rw [if_pos rfl]
      by_cases hx : x = w
      · rw [hx]
        exact (jn_sum hN m (w + 1) T E o1 o2 h (by omega)).2.2 w (w + hi) (by omega) (jB_iff.mpr hb)
      · exact jn_joined hN m (w + 1) T E o1 o2 h (by omega) x (by omega) (by omega)
    | false =>
      rw [if_neg (by decide)]
      have hd : ¬ rel T w (w + hi) := fun q => by rw [jB_iff, hb] at q; exact absurd q (by decide)
      have h' := sw_pm h (a := w) (b := w + hi) (by omega) (by omega)
      by_cases hx : x = w
      · rw [hx]
        exact (jn_sum hN m (w + 1) _ _ _ _ h' (by omega)).2.2 w (w + hi) (by omega) ((merge h (by omega) (by omega) hd (by omega)).mpr (Or.inr ⟨Or.inl (rel_rf T w), Or.inr (rel_rf T (w + hi))⟩))
      · exact jn_joined hN m (w + 1) _ _ _ _ h' (by omega) x (by omega) (by omega)
theorem sw_okT {k n : Nat} {T : Nat → Nat} (h : okT k n T) {a b : Nat} (ha : a < k ^ n) (hb : b < k ^ n) (he : a % k ^ (n - 1) = b % k ^ (n - 1)) : okT k n (sw T a b) := fun w hw => by
  by_cases h1 : w = a
  · rw [h1, sw_a, he]; exact h b hb
  · by_cases h2 : w = b
    · rw [h2, sw_b, ← he]; exact h a ha
    · rw [sw_n h1 h2]; exact h w hw
theorem jn_okT {k n : Nat} : ∀ m w T E o1 o2, okT k n T → w + m + k ^ (n - 1) ≤ k ^ n → okT k n (jn (k ^ (n - 1)) m w T E o1 o2).1
  | 0, w, T, E, o1, o2, h, _ => h
  | m + 1, w, T, E, o1, o2, h, hw => by
    unfold jn
    cases hb : jB T w (w + k ^ (n - 1)) with
    | true =>
      rw [if_pos rfl]
      exact jn_okT m (w + 1) T E o1 o2 h (by omega)
    | false =>
      rw [if_neg (by decide)]
      refine jn_okT m (w + 1) _ _ _ _ (sw_okT h (by omega) (by omega) ?_) (by omega)
      rw [Nat.add_mod_right]
/-- what is written of the exchanges -/
theorem jn_ex {hi N : Nat} : ∀ m w T E o1 o2, w + m + hi ≤ N → (∀ i, i < E → ∃ a b, a < N ∧ b < N ∧ a ≠ b ∧ a % hi = b % hi ∧ o1 i = nI a ∧ o2 i = nI b) → 0 < hi → ∀ i, i < (jn hi m w T E o1 o2).2.1 → ∃ a b, a < N ∧ b < N ∧ a ≠ b ∧ a % hi = b % hi ∧ (jn hi m w T E o1 o2).2.2.1 i = nI a ∧ (jn hi m w T E o1 o2).2.2.2 i = nI b
  | 0, w, T, E, o1, o2, _, h, _ => h
  | m + 1, w, T, E, o1, o2, hw, h, h0 => by
    unfold jn
    cases hb : jB T w (w + hi) with
    | true =>
      rw [if_pos rfl]
      exact jn_ex m (w + 1) T E o1 o2 (by omega) h h0
    | false =>
      rw [if_neg (by decide)]
      refine jn_ex m (w + 1) _ _ _ _ (by omega) (fun i hi2 => ?_) h0
      by_cases hiE : i = E
      · refine ⟨w, w + hi, by omega, by omega, by omega, ?_, by rw [hiE, pk_us], by rw [hiE, pk_us]⟩
        rw [Nat.add_mod_right]
      · rw [pk_un hiE, pk_un hiE]
        exact h i (by omega)
theorem nQ_1 {N : Nat} {T : Nat → Nat} (h : pm N T) (hN : N ≤ 20000) (h0 : 0 < N) : nQ T N = 1 ↔ ∀ x, x < N → rel T 0 x := by
  constructor
  · intro hq x hx
    obtain ⟨i, i1, i2⟩ := nC_val h hN h0
    obtain ⟨j, j1, j2⟩ := nC_val h hN hx
    refine (nC_rel h hN h0 hx).mp ?_
    rw [i2, j2, show i = j by omega]
  · intro ha
    rw [nQ_cs h hN]
    have hl : lsB T 0 = true := lsB_iff.mpr (fun x hx => absurd hx (Nat.not_lt_zero x))
    rw [← cs_rm hl N h0]
    have : ∀ M, M ≤ N → cs (fun j => if j = 0 then false else lsB T j) M = 0 := by
      intro M
      induction M with
      | zero => intro _; rfl
      | succ M ih =>
        intro hM
        show cs (fun j => if j = 0 then false else lsB T j) M + (if M = 0 then false else lsB T M).toNat = 0
        rw [ih (by omega)]
        by_cases hM0 : M = 0
        · rw [if_pos hM0]; rfl
        · rw [if_neg hM0]
          cases hb : lsB T M
          · rfl
          · exact absurd (rel_sy h h0 (ha M (by omega))) (lsB_iff.mp hb 0 (by omega))
    rw [this N (Nat.le_refl _)]
theorem conn {k n : Nat} {T : Nat → Nat} (ok : okW k n) (h : pm (k ^ n) T) (ht : okT k n T) (hj : ∀ w, w + k ^ (n - 1) < k ^ n → rel T w (w + k ^ (n - 1))) : ∀ x, x < k ^ n → rel T 0 x := by
  have hk := ok.pos
  have hp := ok.pp (n - 1)
  have hN : k ^ n = k ^ (n - 1) * k := pow_n1 ok.2.2.1
  generalize hhi : k ^ (n - 1) = hi at *
  have s1 : ∀ q r, r < hi → r + q * hi < k ^ n → rel T r (r + q * hi) := by
    intro q
    induction q with
    | zero => intro r _ _; rw [Nat.zero_mul]; exact rel_rf T r
    | succ q ih =>
      intro r hr hl
      rw [Nat.succ_mul, ← Nat.add_assoc] at hl ⊢
      exact rel_tr (ih r hr (by omega)) (hj _ hl)
  have s1' : ∀ x, x < k ^ n → rel T (x % hi) x := fun x hx => by
    have e := Nat.mod_add_div x hi
    rw [Nat.mul_comm] at e
    have := s1 (x / hi) (x % hi) (Nat.mod_lt _ hp) (by rw [e]; exact hx)
    rw [e] at this
    exact this
  have hle : hi ≤ k ^ n := by rw [hN]; exact Nat.le_mul_of_pos_right hi hk
  have s2 : ∀ e, e < hi → rel T e (e * k % hi) := fun e he => by
    have hy : e * k < k ^ n := by rw [hN]; exact Nat.mul_lt_mul_of_pos_right he hk
    obtain ⟨x0, hx0, hTx, hr⟩ := rel_pre h hy
    have e1 : x0 % hi = e := by
      have := (ht x0 hx0).2
      rw [hTx, Nat.mul_div_cancel _ hk, hhi] at this
      exact this.symm
    have r1 := s1' x0 hx0
    rw [e1] at r1
    have r2 := s1' (e * k) hy
    have l2 : e * k % hi < k ^ n := Nat.lt_of_lt_of_le (Nat.mod_lt _ hp) hle
    exact rel_tr (rel_tr r1 (rel_sy h hy hr)) (rel_sy h l2 r2)
  have s3 : ∀ j e, e < hi → rel T e (e * k ^ j % hi) := by
    intro j
    induction j with
    | zero => intro e he; rw [Nat.pow_zero, Nat.mul_one, Nat.mod_eq_of_lt he]; exact rel_rf T e
    | succ j ih =>
      intro e he
      have := rel_tr (ih e he) (s2 _ (Nat.mod_lt _ hp))
      rw [Nat.mod_mul_mod, Nat.mul_assoc, ← Nat.pow_succ] at this
      exact this
  intro x hx
  have hm := Nat.mod_lt x hp
  have r3 := s3 (n - 1) (x % hi) hm
  rw [hhi, Nat.mul_mod_left] at r3
  exact rel_tr (rel_sy h (Nat.lt_of_lt_of_le hm hle) r3) (s1' x hx)
/-- joined: one cycle is left -/
theorem jn_end {k n E : Nat} {T : Nat → Nat} {o1 o2 : Nat → Int32} (ok : okW k n) (h : pm (k ^ n) T) (ht : okT k n T) : nQ (jn (k ^ (n - 1)) (k ^ n - k ^ (n - 1)) 0 T E o1 o2).1 (k ^ n) = 1 ∧ (jn (k ^ (n - 1)) (k ^ n - k ^ (n - 1)) 0 T E o1 o2).2.1 + 1 = E + nQ T (k ^ n) := by
  have hN := ok.le (Nat.le_refl n)
  have hle : k ^ (n - 1) ≤ k ^ n := Nat.pow_le_pow_right ok.pos (by omega)
  obtain ⟨a1, a2, -⟩ := jn_sum (hi := k ^ (n - 1)) hN (k ^ n - k ^ (n - 1)) 0 T E o1 o2 h (by omega)
  have a3 := jn_joined (hi := k ^ (n - 1)) hN (k ^ n - k ^ (n - 1)) 0 T E o1 o2 h (by omega)
  have a4 := jn_okT (k ^ n - k ^ (n - 1)) 0 T E o1 o2 ht (by omega)
  have hq := (nQ_1 a1 hN (ok.pp n)).mpr (conn ok a1 a4 (fun w hw => a3 w (Nat.zero_le _) (by omega)))
  refine ⟨hq, ?_⟩
  rw [hq] at a2
  exact a2
theorem jn_one {N hi : Nat} (hN : N ≤ 20000) (h0 : 0 < N) : ∀ m w T E o1 o2, pm N T → nQ T N = 1 → w + m + hi ≤ N → jn hi m w T E o1 o2 = (T, E, o1, o2)
  | 0, _, _, _, _, _, _, _, _ => rfl
  | m + 1, w, T, E, o1, o2, h, hq, hw => by
    have ha := (nQ_1 h hN h0).mp hq
    unfold jn
    rw [if_pos (jB_iff.mp (rel_tr (rel_sy h h0 (ha w (by omega))) (ha (w + hi) (by omega))))]
    exact jn_one hN h0 m (w + 1) T E o1 o2 h hq (by omega)
/-- labels, merged -/
theorem relab {N : Nat} {T : Nat → Nat} (h : pm N T) {α : Type} (L L2 : Nat → α) {a b : Nat} (ha : a < N) (hb : b < N) {p q : α} (hL : ∀ x y, x < N → y < N → (L x = L y ↔ rel T x y)) (hpq : (L a = p ∧ L b = q) ∨ (L a = q ∧ L b = p)) (hne : p ≠ q) (h1 : ∀ x, x < N → L x = q → L2 x = p) (h2 : ∀ x, x < N → L x ≠ q → L2 x = L x) : ∀ x y, x < N → y < N → (L2 x = L2 y ↔ rel (sw T a b) x y) := by
  have hd : ¬ rel T a b := fun z => by
    have := (hL a b ha hb).mpr z
    rcases hpq with ⟨e1, e2⟩ | ⟨e1, e2⟩
    · rw [e1, e2] at this; exact hne this
    · rw [e1, e2] at this; exact hne this.symm
  have hU : ∀ x, x < N → ((rel T a x ∨ rel T b x) ↔ (L x = p ∨ L x = q)) := fun x hx => by
    rw [← hL a x ha hx, ← hL b x hb hx]
    rcases hpq with ⟨e1, e2⟩ | ⟨e1, e2⟩
    · rw [e1, e2]
      exact ⟨fun z => z.elim (fun z => Or.inl z.symm) (fun z => Or.inr z.symm), fun z => z.elim (fun z => Or.inl z.symm) (fun z => Or.inr z.symm)⟩
    · rw [e1, e2]
      exact ⟨fun z => z.elim (fun z => Or.inr z.symm) (fun z => Or.inl z.symm), fun z => z.elim (fun z => Or.inr z.symm) (fun z => Or.inl z.symm)⟩
  intro x y hx hy
  rw [merge h ha hb hd hx, hU x hx, hU y hy, ← hL x y hx hy]
  rcases Classical.em (L x = q) with x1 | x1 <;> rcases Classical.em (L y = q) with y1 | y1
  · rw [h1 x hx x1, h1 y hy y1]
    exact ⟨fun _ => Or.inl (x1.trans y1.symm), fun _ => rfl⟩
  · rw [h1 x hx x1, h2 y hy y1]
    refine ⟨fun z => Or.inr ⟨Or.inr x1, Or.inl z.symm⟩, fun z => ?_⟩
    rcases z with z | ⟨-, z⟩
    · exact absurd (z.symm.trans x1) y1
    · exact (z.resolve_right y1).symm
  · rw [h2 x hx x1, h1 y hy y1]
    refine ⟨fun z => Or.inr ⟨Or.inl z, Or.inr y1⟩, fun z => ?_⟩
    rcases z with z | ⟨z, -⟩
    · exact absurd (z.trans y1) x1
    · exact z.resolve_right x1
  · rw [h2 x hx x1, h2 y hy y1]
    refine ⟨fun z => Or.inl z, fun z => ?_⟩
    rcases z with z | ⟨z1, z2⟩
    · exact z
    · exact (z1.resolve_right x1).trans (z2.resolve_right y1).symm
/-- the root of j in a forest whose parents are no greater -/
def rf (p : Nat → Nat) : Nat → Nat → Nat
  | 0, j => j
  | f + 1, j => if p j = j then j else rf p f (p j)
theorem rf_ge {p : Nat → Nat} {M : Nat} (hp : ∀ j, j < M → p j ≤ j) : ∀ f f2 j, j < M → j ≤ f → j ≤ f2 → rf p f j = rf p f2 j := by
  intro f
  induction f with
  | zero =>
    intro f2 j hM h1 h2
    have hj : j = 0 := by omega
    subst hj
    match f2 with
    | 0 => rfl
    | f2 + 1 =>
      unfold rf
      rw [if_pos (by have := hp 0 hM; omega)]
  | succ f ih =>
    intro f2 j hM h1 h2
    match f2 with
    | 0 =>
      have hj : j = 0 := by omega
      subst hj
      unfold rf
      rw [if_pos (by have := hp 0 hM; omega)]
    | f2 + 1 =>
      unfold rf
      by_cases hc : p j = j
      · rw [if_pos hc, if_pos hc]
      · rw [if_neg hc, if_neg hc]
        have := hp j hM
        exact ih f2 (p j) (by omega) (by omega) (by omega)
def ro (p : Nat → Nat) (j : Nat) : Nat := rf p j j
theorem ro_fix {p : Nat → Nat} {j : Nat} (h : p j = j) : ro p j = j := by
  unfold ro
  match j with
  | 0 => rfl
  | j + 1 =>
    unfold rf
    rw [if_pos h]
theorem ro_step {p : Nat → Nat} {M j : Nat} (hp : ∀ j, j < M → p j ≤ j) (hj : j < M) (h : ¬ p j = j) : ro p j = ro p (p j) := by
  have h1 := hp j hj
  obtain ⟨j2, rfl⟩ : ∃ j2, j = j2 + 1 := ⟨j - 1, by omega⟩
  show rf p (j2 + 1) (j2 + 1) = rf p (p (j2 + 1)) (p (j2 + 1))
  conv => lhs; unfold rf
  rw [if_neg h]
  exact rf_ge hp j2 (p (j2 + 1)) (p (j2 + 1)) (by omega) (by omega) (Nat.le_refl _)
theorem ro_ok {p : Nat → Nat} {M : Nat} (hp : ∀ j, j < M → p j ≤ j) : ∀ j, j < M → ro p j ≤ j ∧ p (ro p j) = ro p j := by
  have key : ∀ b j, j ≤ b → j < M → ro p j ≤ j ∧ p (ro p j) = ro p j := by
    intro b
    induction b with
    | zero =>
      intro j hb hj
      have h0 : p j = j := by have := hp j hj; omega
      rw [ro_fix h0]
      exact ⟨Nat.le_refl _, h0⟩
    | succ b ih =>
      intro j hb hj
      by_cases h : p j = j
      · rw [ro_fix h]
        exact ⟨Nat.le_refl _, h⟩
      · have h1 := hp j hj
        rw [ro_step hp hj h]
        obtain ⟨a1, a2⟩ := ih (p j) (by omega) (by omega)
        exact ⟨by omega, a2⟩
  exact fun j hj => key j j (Nat.le_refl _) hj
/-- root q gets parent p0 -/
theorem ro_upd {p : Nat → Nat} {M q r : Nat} (hp : ∀ j, j < M → p j ≤ j) (hq : p q = q) (hr : p r = r) (hrq : r < q) (hqM : q < M) : ∀ j, j < M → ro (fun i => if i = q then r else p i) j = if ro p j = q then r else ro p j := by
  have hp2 : ∀ j, j < M → (fun i => if i = q then r else p i) j ≤ j := fun j hj => by
    show (if j = q then r else p j) ≤ j
    split
    · omega
    · exact hp j hj
  have key : ∀ b j, j ≤ b → j < M → ro (fun i => if i = q then r else p i) j = if ro p j = q then r else ro p j := by
    intro b
    induction b with
    | zero =>
      intro j hb hj
      have h0 : p j = j := by have := hp j hj; omega
      have hjq : j ≠ q := by omega
      rw [ro_fix h0, if_neg hjq, ro_fix]
      show (if j = q then r else p j) = j
      rw [if_neg hjq, h0]
    | succ b ih =>
      intro j hb hj
      by_cases hjq : j = q
      · subst hjq
        rw [ro_fix hq, if_pos rfl]
        have hs : ¬ (fun i => if i = j then r else p i) j = j := by
          show ¬ (if j = j then r else p j) = j
          rw [if_pos rfl]
          omega
        rw [ro_step hp2 hj hs]
        show ro (fun i => if i = j then r else p i) (if j = j then r else p j) = r
        rw [if_pos rfl, ro_fix]
        show (if r = j then r else p r) = r
        rw [if_neg (by omega), hr]
      · by_cases h : p j = j
        · rw [ro_fix h, if_neg hjq, ro_fix]
          show (if j = q then r else p j) = j
          rw [if_neg hjq, h]
        · have h1 := hp j hj
          have hs : ¬ (fun i => if i = q then r else p i) j = j := by
            show ¬ (if j = q then r else p j) = j
            rw [if_neg hjq]
            exact h
          rw [ro_step hp2 hj hs, ro_step hp hj h]
          show ro (fun i => if i = q then r else p i) (if j = q then r else p j) = _
          rw [if_neg hjq]
          exact ih (p j) (by omega) (by omega)
  exact fun j hj => key j j (Nat.le_refl _) hj
