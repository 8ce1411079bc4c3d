/-! RECURRENCE, pure: all steps one behind another, and the lowering -/
abbrev bst : Type := (Nat → Nat) × (Nat → Nat) × Nat × Nat × Nat
def bstep (k : Nat) (s : Nat → Nat) (i : Nat) (x : bst) : bst :=
  if cvs s x.1 x.2.2.1 i % k = 0 then (x.1, x.2.1, x.2.2.1, x.2.2.2.1, x.2.2.2.2 + 1)
  else if 2 * x.2.2.1 ≤ i then (sbt k x.1 x.2.1 (cvs s x.1 x.2.2.1 i % k * iv k x.2.2.2.1 % k) x.2.2.2.2, x.1, i + 1 - x.2.2.1, cvs s x.1 x.2.2.1 i % k, 1)
  else (sbt k x.1 x.2.1 (cvs s x.1 x.2.2.1 i % k * iv k x.2.2.2.1 % k) x.2.2.2.2, x.2.1, x.2.2.1, x.2.2.2.1, x.2.2.2.2 + 1)
def ez : Nat → Nat := fun j => if j = 0 then 1 else 0
def bm (k : Nat) (s : Nat → Nat) : Nat → bst
  | 0 => (ez, ez, 0, 1, 1)
  | i + 1 => bstep k s i (bm k s i)
section BMA
variable {k : Nat} {s : Nat → Nat} {i L eg sh : Nat} {nw ea : Nat → Nat}
theorem bm_z (h : bm k s i = (nw, ea, L, eg, sh)) (hd : cvs s nw L i % k = 0) : bm k s (i + 1) = (nw, ea, L, eg, sh + 1) := by
  show bstep k s i (bm k s i) = _
  rw [h]
  exact if_pos hd
theorem bm_l (h : bm k s i = (nw, ea, L, eg, sh)) (hd : ¬ cvs s nw L i % k = 0) (hl : 2 * L ≤ i) : bm k s (i + 1) = (sbt k nw ea (cvs s nw L i % k * iv k eg % k) sh, nw, i + 1 - L, cvs s nw L i % k, 1) := by
  show bstep k s i (bm k s i) = _
  rw [h]
  exact (if_neg hd).trans (if_pos hl)
theorem bm_s (h : bm k s i = (nw, ea, L, eg, sh)) (hd : ¬ cvs s nw L i % k = 0) (hl : ¬ 2 * L ≤ i) : bm k s (i + 1) = (sbt k nw ea (cvs s nw L i % k * iv k eg % k) sh, ea, L, eg, sh + 1) := by
  show bstep k s i (bm k s i) = _
  rw [h]
  exact (if_neg hd).trans (if_neg hl)
theorem bm_ok (hp : k = 2 ∨ k = 3 ∨ k = 5) : ∀ i, ∃ i1 L2, BI k s i (bm k s i).1 (bm k s i).2.1 (bm k s i).2.2.1 (bm k s i).2.2.2.1 (bm k s i).2.2.2.2 i1 L2
  | 0 => ⟨0, 0, BI_0 (by omega)⟩
  | i + 1 => by
    obtain ⟨i1, L2, h⟩ := bm_ok hp i
    have e : bm k s (i + 1) = bstep k s i (bm k s i) := rfl
    rw [e]
    generalize bm k s i = x at h ⊢
    by_cases hd : cvs s x.1 x.2.2.1 i % k = 0
    · rw [show bstep k s i x = _ from if_pos hd]
      exact ⟨i1, L2, BI_z h hd⟩
    · by_cases hl : 2 * x.2.2.1 ≤ i
      · rw [show bstep k s i x = _ from (if_neg hd).trans (if_pos hl)]
        exact ⟨i + 1, x.2.2.1, BI_long hp h hd hl⟩
      · rw [show bstep k s i x = _ from (if_neg hd).trans (if_neg hl)]
        exact ⟨i1, L2, BI_same hp h (by omega)⟩
theorem bm_bi (hp : k = 2 ∨ k = 3 ∨ k = 5) (h : bm k s i = (nw, ea, L, eg, sh)) : ∃ i1 L2, BI k s i nw ea L eg sh i1 L2 := by
  have := bm_ok (s := s) hp i
  rw [h] at this
  exact this
theorem bm_fa (hp : k = 2 ∨ k = 3 ∨ k = 5) (h : bm k s i = (nw, ea, L, eg, sh)) : L ≤ i ∧ 1 ≤ sh ∧ sh ≤ i + 1 ∧ (∀ j, nw j < k) ∧ (∀ j, ea j < k) ∧ 0 < eg ∧ eg < k := by
  obtain ⟨i1, L2, a1, a2, a3, a4, a5, a6, a7, a8, a9, b1, b2, b3, b4, b5⟩ := bm_bi hp h
  exact ⟨by omega, by omega, by omega, a4, a5, b2⟩
end BMA
/-- from i on, so many numbers lowered -/
def lwn (k : Nat) (ea : Nat → Nat) : Nat → Nat → (Nat → Nat) → Nat → Nat
  | 0, _, x => x
  | m + 1, i, x => lwn k ea m (i + 1) (if x i = 0 then x else sbt k x ea (x i) i)
def LO (k : Nat) (s : Nat → Nat) (N L sh i : Nat) (x : Nat → Nat) : Prop := (∀ j, x j < k) ∧ x 0 = 1 ∧ (∀ j, L < j → x j = 0) ∧ (∀ t, L ≤ t → t < N → cvs s x L t % k = 0) ∧ ∀ j, sh ≤ j → j < i → x j = 0
section LOW
variable {k : Nat} {s : Nat → Nat} {N L eg sh i1 L2 : Nat} {nw ea : Nat → Nat}
theorem LO_s {i : Nat} {x : Nat → Nat} (h : BI k s N nw ea L eg sh i1 L2) (h1 : sh ≤ i) (h2 : i < sh + (2 * L - N)) (h3 : LO k s N L sh i x) : LO k s N L sh (i + 1) (sbt k x ea (x i) i) := by
  obtain ⟨a1, a2, a3, a4, a5, a6, a7, a8, a9, b1, b2, b3, b4, b5⟩ := h
  obtain ⟨c1, c2, c3, c4, c5⟩ := h3
  obtain ⟨d1, d2⟩ := b3 (by omega)
  have hk : 0 < k := Nat.lt_of_le_of_lt (Nat.zero_le _) (a4 0)
  refine ⟨sbt_lt hk c1, ?_, fun j hj => ?_, fun t t1 t2 => ?_, fun j j1 j2 => ?_⟩
  · unfold sbt
    rw [if_neg (by omega)]
    exact c2
  · unfold sbt
    rw [c3 j hj]
    split
    · rw [a9 (j - i) (by omega), Nat.mul_zero, Nat.add_zero, Nat.zero_mod]
    · rfl
  · rw [cvs_sbt (Nat.le_refl L) (by omega) c3 a9 (by omega), Nat.add_mod, c4 t t1 t2, m0_mul (d1 (t - i) (by omega) (by omega))]
    exact Nat.zero_mod k
  · unfold sbt
    by_cases hj : j = i
    · have hx := c1 i
      rw [hj, if_pos (Nat.le_refl _), Nat.sub_self, a7, Nat.mul_one, show x i + (k - x i) = k by omega, Nat.mod_self]
    · rw [if_neg (by omega)]
      exact c5 j j1 (by omega)
theorem lwn_ok (h : BI k s N nw ea L eg sh i1 L2) : ∀ m i x, sh ≤ i → i + m = sh + (2 * L - N) → LO k s N L sh i x → LO k s N L sh (sh + (2 * L - N)) (lwn k ea m i x)
  | 0, i, x, h1, h2, h3 => by
    rw [← h2]
    exact h3
  | m + 1, i, x, h1, h2, h3 => by
    show LO k s N L sh _ (lwn k ea m (i + 1) (if x i = 0 then x else sbt k x ea (x i) i))
    refine lwn_ok h m (i + 1) _ (by omega) (by omega) ?_
    by_cases hx : x i = 0
    · rw [if_pos hx]
      obtain ⟨c1, c2, c3, c4, c5⟩ := h3
      refine ⟨c1, c2, c3, c4, fun j p q => ?_⟩
      by_cases hj : j = i
      · rw [hj]; exact hx
      · exact c5 j p (by omega)
    · rw [if_neg hx]
      exact LO_s h h1 (by omega) h3
theorem LO_0 (h : BI k s N nw ea L eg sh i1 L2) : LO k s N L sh sh nw := by
  obtain ⟨a1, a2, a3, a4, a5, a6, a7, a8, a9, b1, b2, b3, b4, b5⟩ := h
  exact ⟨a4, a6, a8, b1, fun j p q => by omega⟩
end LOW
/-- what the class holds in the end -/
def bmz (k : Nat) (s : Nat → Nat) (N : Nat) : Nat → Nat := lwn k (bm k s N).2.1 (2 * (bm k s N).2.2.1 - N) (bm k s N).2.2.2.2 (bm k s N).1
