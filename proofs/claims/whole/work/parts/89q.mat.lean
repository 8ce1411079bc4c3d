/-! RECURRENCE, pure: rows of numbers, and what is made 0 by all of them -/
def rsm (L : Nat) (A x : Nat → Nat) : Nat := su (fun j => A j * x j) (L + 1)
def Ann (k R L : Nat) (M : Nat → Nat → Nat) (x : Nat → Nat) : Prop := ∀ r, r < R → rsm L (M r) x % k = 0
section MAT
variable {k R L : Nat}
theorem rsm_lin {A B C x : Nat → Nat} {a b : Nat} (h : ∀ j, j ≤ L → A j % k = (a * B j + b * C j) % k) : rsm L A x % k = (a * rsm L B x + b * rsm L C x) % k := by
  unfold rsm
  rw [← su_cm, ← su_cm, ← su_plus]
  refine su_mm _ (fun j hj => ?_)
  rw [Nat.mul_mod, h j (by omega), ← Nat.mul_mod, Nat.add_mul, Nat.mul_assoc, Nat.mul_assoc]
theorem rsm_z {A B C x : Nat → Nat} {a b : Nat} (h : ∀ j, j ≤ L → A j % k = (a * B j + b * C j) % k) (h1 : rsm L B x % k = 0) (h2 : rsm L C x % k = 0) : rsm L A x % k = 0 := by
  rw [rsm_lin h, Nat.add_mod, m0_mul h1, m0_mul h2]
  exact Nat.zero_mod k
/-- row p, so many times, changes places with row d -/
def msw (k y p d : Nat) (M : Nat → Nat → Nat) : Nat → Nat → Nat := fun r j => if r = d then M p j * y % k else if r = p then M d j else M r j
/-- row d is taken away from all the others, so that they are 0 at c -/
def mel (k c d : Nat) (M : Nat → Nat → Nat) : Nat → Nat → Nat := fun r j => if r = d then M d j else (M r j + (k - M r c) * M d j) % k
theorem Ann_sw {M : Nat → Nat → Nat} {y p d v : Nat} (hp : p < R) (hd : d < R) (hv : y * v % k = 1) (hk : 2 ≤ k) (x : Nat → Nat) : Ann k R L M x ↔ Ann k R L (msw k y p d M) x := by
  constructor
  · intro h r hr
    by_cases h1 : r = d
    · refine rsm_z (B := M p) (C := M p) (a := y) (b := 0) (fun j _ => ?_) (h p hp) (h p hp)
      rw [show msw k y p d M r j = M p j * y % k from if_pos h1, Nat.mod_mod, Nat.zero_mul, Nat.add_zero, Nat.mul_comm]
    · by_cases h2 : r = p
      · refine rsm_z (B := M d) (C := M d) (a := 1) (b := 0) (fun j _ => ?_) (h d hd) (h d hd)
        rw [show msw k y p d M r j = M d j from (if_neg h1).trans (if_pos h2), Nat.zero_mul, Nat.add_zero, Nat.one_mul]
      · refine rsm_z (B := M r) (C := M r) (a := 1) (b := 0) (fun j _ => ?_) (h r hr) (h r hr)
        rw [show msw k y p d M r j = M r j from (if_neg h1).trans (if_neg h2), Nat.zero_mul, Nat.add_zero, Nat.one_mul]
  · intro h r hr
    by_cases h1 : r = p
    · refine rsm_z (B := msw k y p d M d) (C := msw k y p d M d) (a := v) (b := 0) (fun j _ => ?_) (h d hd) (h d hd)
      rw [show msw k y p d M d j = M p j * y % k from if_pos rfl, h1, Nat.zero_mul, Nat.add_zero, Nat.mul_mod_mod, Nat.mul_comm v, Nat.mul_assoc, Nat.mul_mod, hv, Nat.mul_one, Nat.mod_mod]
    · by_cases h2 : r = d
      · refine rsm_z (B := msw k y p d M p) (C := msw k y p d M p) (a := 1) (b := 0) (fun j _ => ?_) (h p hp) (h p hp)
        rw [show msw k y p d M p j = M d j from (if_neg (fun q => h1 (by rw [h2, q]))).trans (if_pos rfl), h2, Nat.zero_mul, Nat.add_zero, Nat.one_mul]
      · refine rsm_z (B := msw k y p d M r) (C := msw k y p d M r) (a := 1) (b := 0) (fun j _ => ?_) (h r hr) (h r hr)
        rw [show msw k y p d M r j = M r j from (if_neg h2).trans (if_neg h1), Nat.zero_mul, Nat.add_zero, Nat.one_mul]
theorem Ann_el {M : Nat → Nat → Nat} {c d : Nat} (hd : d < R) (hM : ∀ r, r < R → M r c ≤ k) (x : Nat → Nat) : Ann k R L M x ↔ Ann k R L (mel k c d M) x := by
  constructor
  · intro h r hr
    by_cases h1 : r = d
    · refine rsm_z (B := M d) (C := M d) (a := 1) (b := 0) (fun j _ => ?_) (h d hd) (h d hd)
      rw [show mel k c d M r j = M d j from if_pos h1, Nat.zero_mul, Nat.add_zero, Nat.one_mul]
    · refine rsm_z (B := M r) (C := M d) (a := 1) (b := k - M r c) (fun j _ => ?_) (h r hr) (h d hd)
      rw [show mel k c d M r j = (M r j + (k - M r c) * M d j) % k from if_neg h1, Nat.mod_mod, Nat.one_mul]
  · intro h r hr
    by_cases h1 : r = d
    · refine rsm_z (B := mel k c d M d) (C := mel k c d M d) (a := 1) (b := 0) (fun j _ => ?_) (h d hd) (h d hd)
      rw [show mel k c d M d j = M d j from if_pos rfl, h1, Nat.zero_mul, Nat.add_zero, Nat.one_mul]
    · refine rsm_z (B := mel k c d M r) (C := mel k c d M d) (a := 1) (b := M r c) (fun j _ => ?_) (h r hr) (h d hd)
      have e : (k - M r c) * M d j + M r c * M d j = k * M d j := by rw [← Nat.add_mul, Nat.sub_add_cancel (hM r hr)]
      rw [show mel k c d M r j = (M r j + (k - M r c) * M d j) % k from if_neg h1, show mel k c d M d j = M d j from if_pos rfl, Nat.one_mul, Nat.mod_add_mod, Nat.add_assoc, e, Nat.add_mul_mod_self_left]
/-- what stands when the columns from c on are done -/
def SI (k R L : Nat) (M0 : Nat → Nat → Nat) (c : Nat) (M : Nat → Nat → Nat) (dn : Nat) (kp : Nat → Option Nat) : Prop :=
  dn ≤ R ∧ (∀ r j, r < R → j ≤ L → M r j < k) ∧ (∀ x, Ann k R L M0 x ↔ Ann k R L M x) ∧ (∀ j, j < c → kp j = none) ∧ (∀ j d, c ≤ j → j < L → kp j = some d → d < dn ∧ M d j = 1 ∧ ∀ r, r < R → r ≠ d → M r j = 0) ∧ (∀ j, c ≤ j → j < L → kp j = none → ∀ r, dn ≤ r → r < R → M r j = 0) ∧ (∀ j i d, c ≤ i → i < j → j < L → kp j = none → kp i = some d → M d j = 0) ∧ (∀ j i d, c ≤ j → j < L → c ≤ i → i < L → kp j = some d → kp i = some d → j = i) ∧ (∀ d, d < dn → ∃ j, c ≤ j ∧ j < L ∧ kp j = some d)
theorem SI_0 {M0 : Nat → Nat → Nat} (h : ∀ r j, r < R → j ≤ L → M0 r j < k) : SI k R L M0 L M0 0 (fun _ => none) :=
  ⟨Nat.zero_le _, h, fun _ => Iff.rfl, fun _ _ => rfl, fun j d h1 h2 => by omega, fun j h1 h2 => by omega, fun j i d h1 h2 h3 => by omega, fun j i d h1 h2 => by omega, fun d hd => by omega⟩
theorem SI_no {M0 M : Nat → Nat → Nat} {c dn : Nat} {kp : Nat → Option Nat} (h : SI k R L M0 (c + 1) M dn kp) (hz : ∀ r, dn ≤ r → r < R → M r c = 0) : SI k R L M0 c M dn kp := by
  obtain ⟨a1, a2, a3, a4, a5, a6, a7, a8, a9⟩ := h
  have hc : kp c = none := a4 c (by omega)
  have ne : ∀ j d, c ≤ j → kp j = some d → c + 1 ≤ j := fun j d h1 h2 => by
    by_cases e : j = c
    · rw [e, hc] at h2; exact absurd h2 (by simp)
    · omega
  refine ⟨a1, a2, a3, fun j hj => a4 j (by omega), fun j d h1 h2 h3 => a5 j d (ne j d h1 h3) h2 h3, fun j h1 h2 h3 r h4 h5 => ?_, fun j i d h1 h2 h3 h4 h5 => a7 j i d (ne i d h1 h5) h2 h3 h4 h5, fun j i d h1 h2 h3 h4 h5 h6 => a8 j i d (ne j d h1 h5) h2 (ne i d h3 h6) h4 h5 h6, fun d hd => ?_⟩
  · by_cases e : j = c
    · rw [e]; exact hz r h4 h5
    · exact a6 j (by omega) h2 h3 r h4 h5
  · obtain ⟨j, j1, j2, j3⟩ := a9 d hd
    exact ⟨j, by omega, j2, j3⟩
theorem SI_yes {M0 M : Nat → Nat → Nat} {c dn p y : Nat} {kp : Nat → Option Nat} (hk : 2 ≤ k) (hcL : c < L) (h : SI k R L M0 (c + 1) M dn kp) (h1 : dn ≤ p) (h2 : p < R) (hy : y * M p c % k = 1) : SI k R L M0 c (mel k c dn (msw k y p dn M)) (dn + 1) (fun j => if j = c then some dn else kp j) := by
  obtain ⟨a1, a2, a3, a4, a5, a6, a7, a8, a9⟩ := h
  have hdn : dn < R := by omega
  have hs1 : ∀ j, msw k y p dn M dn j = M p j * y % k := fun j => if_pos rfl
  have hs2 : ∀ r j, r ≠ dn → r ≠ p → msw k y p dn M r j = M r j := fun r j q1 q2 => (if_neg q1).trans (if_neg q2)
  have hs3 : ∀ j, p ≠ dn → msw k y p dn M p j = M dn j := fun j q => (if_neg q).trans (if_pos rfl)
  have hlt : ∀ r j, r < R → j ≤ L → msw k y p dn M r j < k := fun r j q1 q2 => by
    by_cases e1 : r = dn
    · rw [e1, hs1]; exact Nat.mod_lt _ (by omega)
    · by_cases e2 : r = p
      · rw [e2, hs3 j (fun q => e1 (by rw [e2, q]))]; exact a2 dn j hdn q2
      · rw [hs2 r j e1 e2]; exact a2 r j q1 q2
  have h0 : ∀ r j, dn ≤ r → r < R → (∀ q, dn ≤ q → q < R → M q j = 0) → msw k y p dn M r j = 0 := fun r j q1 q2 q3 => by
    by_cases e1 : r = dn
    · rw [e1, hs1, q3 p h1 h2, Nat.zero_mul, Nat.zero_mod]
    · by_cases e2 : r = p
      · rw [e2, hs3 j (fun q => e1 (by rw [e2, q]))]; exact q3 dn (Nat.le_refl _) hdn
      · rw [hs2 r j e1 e2]; exact q3 r q1 q2
  have hl : ∀ r j, r < dn → msw k y p dn M r j = M r j := fun r j q => hs2 r j (by omega) (by omega)
  have he1 : ∀ j, mel k c dn (msw k y p dn M) dn j = msw k y p dn M dn j := fun j => if_pos rfl
  have he2 : ∀ r j, r ≠ dn → mel k c dn (msw k y p dn M) r j = (msw k y p dn M r j + (k - msw k y p dn M r c) * msw k y p dn M dn j) % k := fun r j q => if_neg q
  have he3 : ∀ r j, r < R → j ≤ L → msw k y p dn M dn j = 0 → mel k c dn (msw k y p dn M) r j = msw k y p dn M r j := fun r j q1 q3 q2 => by
    by_cases e : r = dn
    · rw [e, he1]
    · rw [he2 r j e, q2, Nat.mul_zero, Nat.add_zero, Nat.mod_eq_of_lt (hlt r j q1 q3)]
  have hc1 : msw k y p dn M dn c = 1 := by rw [hs1, Nat.mul_comm]; exact hy
  -- a column behind c is 0 in row dn
  have hz : ∀ j, c + 1 ≤ j → j < L → msw k y p dn M dn j = 0 := fun j q1 q2 => by
    cases hkj : kp j with
    | none => exact h0 dn j (Nat.le_refl _) hdn (a6 j q1 q2 hkj)
    | some d =>
      obtain ⟨b1, b2, b3⟩ := a5 j d q1 q2 hkj
      rw [hs1, b3 p h2 (by omega), Nat.zero_mul, Nat.zero_mod]
  have kc : ∀ j d, c ≤ j → (if j = c then some dn else kp j) = some d → (j = c ∧ d = dn) ∨ (c + 1 ≤ j ∧ kp j = some d) := fun j d q1 q2 => by
    by_cases e : j = c
    · rw [if_pos e] at q2; exact Or.inl ⟨e, (Option.some.inj q2).symm⟩
    · rw [if_neg e] at q2; exact Or.inr ⟨by omega, q2⟩
  have kn : ∀ j, c ≤ j → (if j = c then some dn else kp j) = none → c + 1 ≤ j ∧ kp j = none := fun j q1 q2 => by
    by_cases e : j = c
    · rw [if_pos e] at q2; exact absurd q2 (by simp)
    · rw [if_neg e] at q2; exact ⟨by omega, q2⟩
  refine ⟨by omega, fun r j q1 q2 => ?_, fun x => ?_, fun j hj => ?_, fun j d q1 q2 q3 => ?_, fun j q1 q2 q3 r q4 q5 => ?_, fun j i d q1 q2 q3 q4 q5 => ?_, fun j i d q1 q2 q3 q4 q5 q6 => ?_, fun d hd => ?_⟩
  · by_cases e : r = dn
    · rw [e, he1]; exact hlt dn j hdn q2
    · rw [he2 r j e]; exact Nat.mod_lt _ (by omega)
  · exact (a3 x).trans ((Ann_sw h2 hdn hy hk x).trans (Ann_el hdn (fun r hr => Nat.le_of_lt (hlt r c hr (by omega))) x))
  · show (if j = c then some dn else kp j) = none
    rw [if_neg (by omega)]
    exact a4 j (by omega)
  · rcases kc j d q1 q3 with ⟨e1, e2⟩ | ⟨e1, e2⟩
    · subst e1; subst e2
      refine ⟨by omega, by rw [he1]; exact hc1, fun r r1 r2 => ?_⟩
      have := hlt r j r1 (by omega)
      rw [he2 r j r2, hc1, Nat.mul_one, show msw k y p d M r j + (k - msw k y p d M r j) = k by omega, Nat.mod_self]
    · obtain ⟨b1, b2, b3⟩ := a5 j d e1 q2 e2
      refine ⟨by omega, ?_, fun r r1 r2 => ?_⟩
      · rw [he3 d j (by omega) (by omega) (hz j e1 q2), hl d j b1]; exact b2
      · rw [he3 r j r1 (by omega) (hz j e1 q2)]
        by_cases f1 : r = dn
        · rw [f1]; exact hz j e1 q2
        · by_cases f2 : r = p
          · rw [f2, hs3 j (fun q => f1 (by rw [f2, q]))]; exact b3 dn hdn (by omega)
          · rw [hs2 r j f1 f2]; exact b3 r r1 r2
  · obtain ⟨e1, e2⟩ := kn j q1 q3
    rw [he3 r j q5 (by omega) (hz j e1 q2)]
    exact h0 r j (by omega) q5 (a6 j e1 q2 e2)
  · obtain ⟨e1, e2⟩ := kn j (by omega) q4
    rcases kc i d q1 q5 with ⟨f1, f2⟩ | ⟨f1, f2⟩
    · subst f2
      rw [he1]
      exact hz j e1 q3
    · obtain ⟨b1, b2, b3⟩ := a5 i d f1 (by omega) f2
      rw [he3 d j (by omega) (by omega) (hz j e1 q3), hl d j b1]
      exact a7 j i d f1 q2 q3 e2 f2
  · rcases kc j d q1 q5 with ⟨e1, e2⟩ | ⟨e1, e2⟩
    · rcases kc i d q3 q6 with ⟨f1, f2⟩ | ⟨f1, f2⟩
      · rw [e1, f1]
      · have := (a5 i d f1 q4 f2).1; omega
    · rcases kc i d q3 q6 with ⟨f1, f2⟩ | ⟨f1, f2⟩
      · have := (a5 j d e1 q2 e2).1; omega
      · exact a8 j i d e1 q2 f1 q4 e2 f2
  · by_cases e : d = dn
    · exact ⟨c, Nat.le_refl _, hcL, by show (if c = c then some dn else kp c) = _; rw [if_pos rfl, e]⟩
    · obtain ⟨j, j1, j2, j3⟩ := a9 d (by omega)
      exact ⟨j, by omega, j2, by show (if j = c then some dn else kp j) = _; rw [if_neg (by omega)]; exact j3⟩
end MAT
