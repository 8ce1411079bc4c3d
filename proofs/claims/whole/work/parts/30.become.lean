/-! Words.howMany, Words.become -/
def Fr (X : List Nat) (h h2 : ah) : Prop := ∀ j, j ∉ X → h2 j = h j
theorem Fr.rf {X : List Nat} {h : ah} : Fr X h h := fun _ _ => rfl
theorem Fr.up {X : List Nat} {h h2 : ah} {k : Nat} {e : ce} (f : Fr X h h2) (hk : k ∈ X) : Fr X h (va_up h2 k e) := fun j hj => by
  rw [up_n (k := k) (j := j) h2 e (fun z => hj (by rw [z]; exact hk))]
  exact f j hj
theorem Fr.tr {X Y : List Nat} {h h2 h3 : ah} (f : Fr X h h2) (g : Fr Y h2 h3) (hs : ∀ j ∈ Y, j ∈ X) : Fr X h h3 := fun j hj => (g j (fun z => hj (hs j z))).trans (f j hj)
theorem Fr.mono {X Y : List Nat} {h h2 : ah} (f : Fr Y h h2) (hs : ∀ j ∈ Y, j ∈ X) : Fr X h h2 := fun j hj => f j (fun z => hj (hs j z))
abbrev aI (n : Nat) (f : Nat → Int32) : ce := (0, .inr (n, .inl f))
abbrev aB (n : Nat) (f : Nat → Int32) : ce := (1, .inr (n, .inl f))
abbrev aZ (n : Nat) (f : Nat → Int32) : ce := (2, .inr (n, .inl f))
abbrev aJ (n : Nat) (f : Nat → Int64) : ce := (3, .inr (n, .inr (.inl f)))
theorem C_become {G : gx} {h : ah} {k n : Nat} {u1 u2 u3 u4 : Int32} {f : Nat → Int32} (ok : okW k n) (g3 : h 3 = (6, .inl [.ref 4, .int u1, .int u2, .int u3, .int u4])) (g4 : h 4 = aI 15 f) {d : Nat} : Ct G mX6_become d 0 0 [.ref 3, .int (nI k), .int (nI n)] h (fun r h2 => r = none ∧ h2 3 = cW k n ∧ (∃ pw, h2 4 = aI 15 pw ∧ isP k n pw) ∧ Fr [3, 4] h h2) := by
  have hn := ok.2.2.1
  have hn2 := ok.2.2.2.1
  have key : ∀ m i (h1 : ah) (f1 : Nat → Int32), i + m = n + 1 → 1 ≤ i → h1 3 = (6, .inl [.ref 4, .int (nI k), .int (nI n), .int u3, .int u4]) → h1 4 = aI 15 f1 → (∀ j, j < i → f1 j = nI (k ^ j)) → Fr [3, 4] h h1 → V G mX6_become (b0 d) 19 [some (.ref 3), some (.int (nI k)), some (.int (nI n)), some (.int (nI i))] [] h1 (fun r h2 => r = none ∧ h2 3 = cW k n ∧ (∃ pw, h2 4 = aI 15 pw ∧ isP k n pw) ∧ Fr [3, 4] h h2) := by
    intro m
    induction m with
    | zero =>
      intro i h1 f1 hi h1i a3 a4 hf hfr
      have e1 : nI n - (1 : Int32) = nI (n - 1) := pk_sub (b := 1) hn
      refine tX6_become_19 a3 a4 (fun _ => vp_in_nI (by omega) (by omega)) (fun _ => by rw [e1]; exact vp_in_nI (by omega) (by omega)) (fun _ => ?_) (fun e => absurd (nI_lt (by omega) (by omega)) e) (fun e => absurd (nI_lt (by omega) (by omega)) e) (fun e => absurd (nI_lt (by omega) (by omega)) e)
      rw [e1, nI_clamp (by omega), nI_clamp (by omega), hf n (by omega), hf (n - 1) (by omega)]
      exact ⟨rfl, rfl, ⟨f1, a4, fun j hj => hf j (by omega)⟩, (hfr.up (by decide)).up (by decide)⟩
    | succ m ih =>
      intro i h1 f1 hi h1i a3 a4 hf hfr
      have e1 : nI i - (1 : Int32) = nI (i - 1) := pk_sub (b := 1) h1i
      refine tX6_become_19 a3 a4 (fun e => absurd e (nI_nlt (by omega) (by omega))) (fun e => absurd e (nI_nlt (by omega) (by omega))) (fun e => absurd e (nI_nlt (by omega) (by omega))) (fun _ => by rw [e1]; exact vp_in_nI (by omega) (by omega)) (fun _ => vp_in_nI (by omega) (by omega)) (fun _ => ?_)
      rw [e1, nI_clamp (by omega), nI_clamp (by omega), hf (i - 1) (by omega), pk_mul, nI_1, ← Nat.pow_succ, show (i - 1).succ = i by omega]
      refine ih (i + 1) _ (upd f1 i (nI (k ^ i))) (by omega) (by omega) a3 rfl (fun j hj => ?_) (hfr.up (by decide))
      by_cases hji : j = i
      · subst hji; exact pk_us
      · rw [pk_un hji]; exact hf j (by omega)
  refine Ct_of (by decide +kernel) (Nat.le_of_ble_eq_true rfl) (tX6_become_0 g3 g4 (vp_in_nI (n := 0) (by decide) (by decide)) ?_)
  refine key n 1 _ (upd f (0 : Int32).toNatClampNeg (1 : Int32)) (by omega) (Nat.le_refl _) rfl rfl (fun j hj => ?_) (((Fr.rf.up (by decide)).up (by decide)).up (by decide))
  rw [show j = 0 by omega, Nat.pow_zero]
  exact pk_us
/-- how many words there would be -/
def hm (k : Nat) : Nat → Nat → Nat
  | 0, a => a
  | i + 1, a => if a * k ≤ 20000 then hm k i (a * k) else 0
theorem hm_eq {k : Nat} (hk : 1 ≤ k) : ∀ (i a : Nat), a ≤ 20000 → 1 ≤ a → hm k i a = if a * k ^ i ≤ 20000 then a * k ^ i else 0
  | 0, a, h, _ => by
    show a = _
    rw [Nat.pow_zero, Nat.mul_one, if_pos h]
  | i + 1, a, h, h1 => by
    have e : a * k ^ (i + 1) = a * k * k ^ i := by rw [Nat.pow_succ, Nat.mul_comm (k ^ i), Nat.mul_assoc]
    rw [hm, e]
    by_cases hc : a * k ≤ 20000
    · rw [if_pos hc]
      exact hm_eq hk i (a * k) hc (Nat.mul_pos h1 hk)
    · rw [if_neg hc, if_neg]
      have : a * k * 1 ≤ a * k * k ^ i := Nat.mul_le_mul_left _ (Nat.pow_pos hk)
      omega
/-- what wheel answers of howMany: 0 where the numbers are not as told -/
def hw (x y : Int32) : Int32 := if x < 2 ∨ 5 < x ∨ y < 1 ∨ 14 < y then 0 else nI (hm x.toNatClampNeg y.toNatClampNeg 1)
theorem C_howMany {G : gx} {h : ah} (x y : Int32) {d : Nat} : Ct G mX6_howMany d 0 0 [.int x, .int y] h (Rv (.int (hw x y)) h) := by
  have key : ∀ (k n : Nat), 2 ≤ k → k ≤ 5 → n ≤ 14 → ∀ m i a, i + m = n → a ≤ 20000 → V G mX6_howMany (b0 d) 27 [some (.int (nI k)), some (.int (nI n)), some (.int (nI a)), some (.int (nI i))] [] h (Rv (.int (nI (hm k m a))) h) := by
    intro k n hk hk5 hn m
    induction m with
    | zero =>
      intro i a hi ha
      exact tX6_howMany_27 (fun _ => ⟨rfl, rfl⟩) (fun e => absurd (nI_le (by omega) (by omega)) e) (fun e => absurd (nI_le (by omega) (by omega)) e)
    | succ m ih =>
      intro i a hi ha
      have hak : a * k ≤ 100000 := Nat.le_trans (Nat.mul_le_mul ha hk5) (by decide)
      have e2 : (nI a * nI k ≤ (20000 : Int32)) ↔ a * k ≤ 20000 := by rw [pk_mul]; exact nI_leI (b := 20000) (by omega) (by decide)
      refine tX6_howMany_27 (fun e => absurd e (nI_ge (by omega) (by omega))) (fun _ e => ?_) (fun _ e => ⟨?_, rfl⟩)
      · have e3 := e2.mp e
        rw [hm, if_pos e3, pk_mul, nI_1]
        exact ih (i + 1) (a * k) (by omega) e3
      · rw [hm, if_neg (fun z => e (e2.mpr z))]
        rfl
  refine Ct_of (by decide +kernel) (Nat.le_of_ble_eq_true rfl) (tX6_howMany_0 (fun e => ⟨by rw [hw, if_pos (Or.inl e)], rfl⟩) (fun _ e => ⟨by rw [hw, if_pos (Or.inr (Or.inl e))], rfl⟩) (fun _ _ e => ⟨by rw [hw, if_pos (Or.inr (Or.inr (Or.inl e)))], rfl⟩) (fun e1 e2 e3 e4 => ?_) (fun _ _ _ e => ⟨by rw [hw, if_pos (Or.inr (Or.inr (Or.inr (Int32.not_le.mp e))))], rfl⟩))
  have hx0 : ¬ x < 0 := fun z => e1 (Int32.lt_trans z (by decide))
  have hy0 : ¬ y < 0 := fun z => e3 (Int32.lt_trans z (by decide))
  obtain ⟨k, hk, rfl⟩ := nI_of2 (M := 5) (n := 5) (by decide) hx0 (Int32.not_lt.mp e2)
  obtain ⟨n, hn, rfl⟩ := nI_of2 (M := 14) (n := 14) (by decide) hy0 e4
  have hk2 : 2 ≤ k := by
    rcases Nat.lt_or_ge k 2 with q | q
    · exact absurd (nI_lt (b := 2) q (by decide)) e1
    · exact q
  have ea : hw (nI k) (nI n) = nI (hm k n 1) := by
    rw [hw, if_neg, nI_clamp (by omega), nI_clamp (by omega)]
    rintro (z | z | z | z)
    · exact e1 z
    · exact e2 z
    · exact e3 z
    · exact Int32.not_le.mpr z e4
  rw [ea]
  exact key k n hk2 hk hn n 0 1 (by omega) (by decide)
