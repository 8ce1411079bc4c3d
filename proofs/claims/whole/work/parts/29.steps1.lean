/-! turn, least, steps, size, even: class and reference answer alike -/
abbrev cX (f l : Int32) : ce := (7, .inl [.ref 3, .ref 5, .ref 9, .ref 17, .ref 23, .ref 36, .ref 38, .int f, .int l])
theorem wd_pick {k n : Nat} (ok : okW k n) {x : Int32} (hx : ¬ (x < 0 ∨ nI (k ^ n) ≤ x)) : ∃ w : Nat, w < k ^ n ∧ x = nI w := by
  have hl := ok.le (Nat.le_refl n)
  rcases pk_ix x (n := k ^ n) (by omega) with h | h | h
  · exact absurd (Or.inl h) hx
  · exact absurd (Or.inr h) hx
  · exact h
theorem wd_no {k n w : Nat} (ok : okW k n) (hw : w < k ^ n) : ¬ (nI w < 0 ∨ nI (k ^ n) ≤ nI w) := by
  have hl := ok.le (Nat.le_refl n)
  rintro (h | h)
  · exact nI_pos (by omega) h
  · exact nI_ge hw (by omega) h
/-- an answer about a word -/
def aw (k n : Nat) (f : Nat → Int32) (x : Int32) : Int32 := if x < 0 ∨ nI (k ^ n) ≤ x then -2 else f x.toNatClampNeg
theorem aw_no {k n : Nat} {f : Nat → Int32} {x : Int32} (h : x < 0 ∨ nI (k ^ n) ≤ x) : aw k n f x = -2 := if_pos h
theorem aw_w {k n w : Nat} (ok : okW k n) (f : Nat → Int32) (hw : w < k ^ n) : aw k n f (nI w) = f w := by
  have hl := ok.le (Nat.le_refl n)
  rw [aw, if_neg (wd_no ok hw), nI_clamp (by omega)]
theorem z01 (c : Prop) [Decidable c] : ((if c then (0 : Int32) else 1) = 0) ↔ c := by
  by_cases h : c
  · rw [if_pos h]; exact ⟨fun _ => h, fun _ => rfl⟩
  · rw [if_neg h]; exact ⟨fun e => absurd e (by decide), fun e => absurd e h⟩
theorem ls_spec {k n w : Nat} : ∀ t, ls k n w t ≤ t ∧ ti k n (ls k n w t) w = lm k n w t ∧ ∀ s, s < ls k n w t → ti k n s w ≠ lm k n w t
  | 0 => ⟨Nat.le_refl _, rfl, fun s h => by simp [ls] at h⟩
  | t + 1 => by
    obtain ⟨h1, h2, h3⟩ := ls_spec (k := k) (n := n) (w := w) t
    by_cases hc : ti k n (t + 1) w < lm k n w t
    · have e1 : ls k n w (t + 1) = t + 1 := if_pos hc
      have e2 : lm k n w (t + 1) = ti k n (t + 1) w := Nat.min_eq_right (by omega)
      rw [e1, e2]
      refine ⟨Nat.le_refl _, rfl, fun s hs => ?_⟩
      have := lm_ti (k := k) (n := n) (w := w) t s (by omega)
      omega
    · have e1 : ls k n w (t + 1) = ls k n w t := if_neg hc
      have e2 : lm k n w (t + 1) = lm k n w t := Nat.min_eq_left (by omega)
      rw [e1, e2]
      exact ⟨by omega, h2, h3⟩
theorem bk_lt {k : Nat} (hk : 0 < k) : ∀ (m r a : Nat), bk k m r a < (a + 1) * k ^ m
  | 0, r, a => by
    show a < _
    rw [Nat.pow_zero, Nat.mul_one]
    omega
  | m + 1, r, a => by
    have h1 := bk_lt hk m (r / k) (a * k + r % k)
    have h2 : a * k + r % k + 1 ≤ (a + 1) * k := by
      have := Nat.mod_lt r hk
      rw [Nat.add_mul, Nat.one_mul]
      omega
    have h3 : (a * k + r % k + 1) * k ^ m ≤ (a + 1) * k * k ^ m := Nat.mul_le_mul_right _ h2
    rw [Nat.mul_assoc, Nat.mul_comm k, ← Nat.pow_succ] at h3
    exact Nat.lt_of_lt_of_le h1 h3
theorem lo_lt {k n w : Nat} (hw : w < k ^ n) : lo k n w < k ^ n := lm_lt hw _
/-- whether the ring is even -/
def ev (k n w : Nat) : Int32 := if lo k n (bk k n (lo k n w) 0) = lo k n w then 1 else 0
section ST1
variable {G : gx} {h : ah} {k n : Nat} {f l ms mx mc mw ml mf mp mg : Int32} {lf pw : Nat → Int32}
theorem X_least (ok : okW k n) (g2 : h 2 = cX f l) (g3 : h 3 = cW k n) (x : Int32) : Ct G mX7_least 2 0 0 [.ref 2, .int x] h (Rv (.int (aw k n (fun w => nI (lo k n w)) x)) h) := by
  refine Ct_of (by decide +kernel) (Nat.le_of_ble_eq_true rfl) (tX7_least_0 g2 ?_)
  refine cX7_least_5 (C_has g3 x (d := 0)) g3 ⟨by decide, by decide⟩ (by decide) ⟨Nat.le_refl _, Nat.le_refl _⟩ (fun r h2 e => ?_)
  obtain ⟨rfl, rfl⟩ := e
  refine tX7_least_8 g2 (fun e => ⟨by rw [aw_no ((z01 _).mp e)], rfl⟩) (fun e => ?_)
  obtain ⟨w, hw, rfl⟩ := wd_pick ok (fun z => e ((z01 _).mpr z))
  refine cX7_least_16 (C_leastOf ok g3 hw) g3 ⟨by decide, by decide⟩ (by decide) ⟨Nat.le_refl _, Nat.le_refl _⟩ (fun r h2 e => ?_)
  obtain ⟨rfl, rfl⟩ := e
  exact tX7_least_19 ⟨by rw [aw_w ok _ hw], rfl⟩
theorem X_steps (ok : okW k n) (g2 : h 2 = cX f l) (g3 : h 3 = cW k n) (x : Int32) : Ct G mX7_steps 2 0 0 [.ref 2, .int x] h (Rv (.int (aw k n (fun w => nI (ls k n w (n - 1))) x)) h) := by
  refine Ct_of (by decide +kernel) (Nat.le_of_ble_eq_true rfl) (tX7_steps_0 g2 ?_)
  refine cX7_steps_5 (C_has g3 x (d := 0)) g3 ⟨by decide, by decide⟩ (by decide) ⟨Nat.le_refl _, Nat.le_refl _⟩ (fun r h2 e => ?_)
  obtain ⟨rfl, rfl⟩ := e
  refine tX7_steps_8 g2 (fun e => ⟨by rw [aw_no ((z01 _).mp e)], rfl⟩) (fun e => ?_)
  obtain ⟨w, hw, rfl⟩ := wd_pick ok (fun z => e ((z01 _).mpr z))
  refine cX7_steps_16 (C_stepsToLeast ok g3 hw) g3 ⟨by decide, by decide⟩ (by decide) ⟨Nat.le_refl _, Nat.le_refl _⟩ (fun r h2 e => ?_)
  obtain ⟨rfl, rfl⟩ := e
  exact tX7_steps_19 ⟨by rw [aw_w ok _ hw], rfl⟩
theorem X_size (ok : okW k n) (g2 : h 2 = cX f l) (g3 : h 3 = cW k n) (x : Int32) : Ct G mX7_size 2 0 0 [.ref 2, .int x] h (Rv (.int (aw k n (fun w => nI (rz k n w (n - 1) 1)) x)) h) := by
  refine Ct_of (by decide +kernel) (Nat.le_of_ble_eq_true rfl) (tX7_size_0 g2 ?_)
  refine cX7_size_5 (C_has g3 x (d := 0)) g3 ⟨by decide, by decide⟩ (by decide) ⟨Nat.le_refl _, Nat.le_refl _⟩ (fun r h2 e => ?_)
  obtain ⟨rfl, rfl⟩ := e
  refine tX7_size_8 g2 (fun e => ⟨by rw [aw_no ((z01 _).mp e)], rfl⟩) (fun e => ?_)
  obtain ⟨w, hw, rfl⟩ := wd_pick ok (fun z => e ((z01 _).mpr z))
  refine cX7_size_16 (C_ringSize ok g3 hw) g3 ⟨by decide, by decide⟩ (by decide) ⟨Nat.le_refl _, Nat.le_refl _⟩ (fun r h2 e => ?_)
  obtain ⟨rfl, rfl⟩ := e
  exact tX7_size_19 ⟨by rw [aw_w ok _ hw], rfl⟩
theorem X_even (ok : okW k n) (g2 : h 2 = cX f l) (g3 : h 3 = cW k n) (x : Int32) : Ct G mX7_even 2 0 0 [.ref 2, .int x] h (Rv (.int (aw k n (ev k n) x)) h) := by
  have hl := ok.le (Nat.le_refl n)
  refine Ct_of (by decide +kernel) (Nat.le_of_ble_eq_true rfl) (tX7_even_0 g2 ?_)
  refine cX7_even_5 (C_has g3 x (d := 0)) g3 ⟨by decide, by decide⟩ (by decide) ⟨Nat.le_refl _, Nat.le_refl _⟩ (fun r h2 e => ?_)
  obtain ⟨rfl, rfl⟩ := e
  refine tX7_even_8 g2 (fun e => ?_) (fun e => ⟨by rw [aw_no ((z01 _).mp e)], rfl⟩)
  obtain ⟨w, hw, rfl⟩ := wd_pick ok (fun z => e ((z01 _).mpr z))
  refine cX7_even_19 (C_leastOf ok g3 hw) g3 ⟨by decide, by decide⟩ (by decide) ⟨Nat.le_refl _, Nat.le_refl _⟩ (fun r h2 e => ?_)
  obtain ⟨rfl, rfl⟩ := e
  refine tX7_even_22 g2 ?_
  refine cX7_even_32 (C_backward ok g3 (lo_lt hw) (d := 0)) g3 ⟨by decide, by decide⟩ (by decide) ⟨Nat.le_refl _, Nat.le_refl _⟩ (fun r h2 e => ?_)
  obtain ⟨rfl, rfl⟩ := e
  have hb : bk k n (lo k n w) 0 < k ^ n := by have := bk_lt ok.pos n (lo k n w) 0; omega
  refine cX7_even_35 (C_leastOf ok g3 hb) g3 ⟨by decide, by decide⟩ (by decide) ⟨Nat.le_refl _, Nat.le_refl _⟩ (fun r h2 e => ?_)
  obtain ⟨rfl, rfl⟩ := e
  have h1 := lo_lt hw
  have h2 := lo_lt hb
  refine tX7_even_38 (fun e => ⟨?_, rfl⟩) (fun e => ⟨?_, rfl⟩)
  · rw [aw_w ok _ hw, ev, if_neg (fun z => e (by rw [z]))]
  · rw [aw_w ok _ hw, ev, if_pos ((nI_eq (by omega) (by omega)).mp e)]
/-- turn's answer -/
def at_ (k n : Nat) (x t : Int32) : Int32 := if x < 0 ∨ nI (k ^ n) ≤ x then -2 else if t < 0 ∨ 1000 < t then -2 else nI (ti k n (t.toNatClampNeg % n) x.toNatClampNeg)
theorem X_turn (ok : okW k n) (g2 : h 2 = cX f l) (g3 : h 3 = cW k n) (g4 : h 4 = (0, .inr (15, .inl pw))) (hp : isP k n pw) (x t : Int32) : Ct G mX7_turn 1 0 0 [.ref 2, .int x, .int t] h (Rv (.int (at_ k n x t)) h) := by
  have hl := ok.le (Nat.le_refl n)
  refine Ct_of (by decide +kernel) (Nat.le_of_ble_eq_true rfl) (tX7_turn_0 g2 ?_)
  refine cX7_turn_5 (C_has g3 x (d := 0)) g3 ⟨by decide, by decide⟩ (by decide) ⟨Nat.le_refl _, Nat.le_refl _⟩ (fun r h2 e => ?_)
  obtain ⟨rfl, rfl⟩ := e
  refine tX7_turn_8 g2 (fun e => ⟨by rw [at_, if_pos ((z01 _).mp e)], rfl⟩) (fun e e1 => ⟨by rw [at_, if_neg (fun z => e ((z01 _).mpr z)), if_pos (Or.inl e1)], rfl⟩) (fun e e1 e2 => ?_) (fun e e1 e2 => ⟨by rw [at_, if_neg (fun z => e ((z01 _).mpr z)), if_pos (Or.inr (Int32.not_le.mp e2))], rfl⟩)
  obtain ⟨w, hw, rfl⟩ := wd_pick ok (fun z => e ((z01 _).mpr z))
  obtain ⟨j, hj, rfl⟩ := nI_of2 (M := 1000) (n := 1000) (by decide) e1 e2
  refine cX7_turn_31 (C_turned ok g3 g4 hp hw hj (d := 0)) g3 ⟨by decide, by decide⟩ (by decide) ⟨Nat.le_refl _, Nat.le_refl _⟩ (fun r h2 e => ?_)
  obtain ⟨rfl, rfl⟩ := e
  refine tX7_turn_34 ⟨?_, rfl⟩
  rw [at_, if_neg (wd_no ok hw), if_neg (fun z => z.elim e1 (fun z => Int32.not_le.mpr z e2)), nI_clamp (by omega), nI_clamp (by omega)]
/-! the reference -/
theorem M_least (ok : okW k n) (g42 : h 42 = cM (nI k) (nI n) (nI (k ^ n)) ms mx mc mw ml mf mp mg) (g43 : h 43 = (0, .inr (20000, .inl lf))) (hlf : ∀ w, w < k ^ n → lf w = nI (lo k n w)) (x : Int32) : Ct G mX8_least 2 0 0 [.ref 42, .int x] h (Rv (.int (aw k n (fun w => nI (lo k n w)) x)) h) := by
  have hl := ok.le (Nat.le_refl n)
  refine Ct_of (by decide +kernel) (Nat.le_of_ble_eq_true rfl) (tX8_least_0 ?_)
  refine cX8_least_2 (C_isWord ok g42 x) g42 ⟨by decide, by decide⟩ (by decide) ⟨Nat.le_refl _, Nat.le_refl _⟩ (fun r h2 e => ?_)
  obtain ⟨rfl, rfl⟩ := e
  refine tX8_least_5 g42 g43 (fun e => ⟨by rw [aw_no ((z01 _).mp e)], rfl⟩) (fun e => ?_) (fun e => ?_)
  · obtain ⟨w, hw, rfl⟩ := wd_pick ok (fun z => e ((z01 _).mpr z))
    exact vp_in_nI (by omega) (by omega)
  · obtain ⟨w, hw, rfl⟩ := wd_pick ok (fun z => e ((z01 _).mpr z))
    exact ⟨by rw [aw_w ok _ hw, nI_clamp (by omega), hlf w hw], rfl⟩
theorem M_steps (ok : okW k n) (g42 : h 42 = cM (nI k) (nI n) (nI (k ^ n)) ms mx mc mw ml mf mp mg) (g43 : h 43 = (0, .inr (20000, .inl lf))) (hlf : ∀ w, w < k ^ n → lf w = nI (lo k n w)) (x : Int32) : Ct G mX8_steps 2 0 0 [.ref 42, .int x] h (Rv (.int (aw k n (fun w => nI (ls k n w (n - 1))) x)) h) := by
  have hl := ok.le (Nat.le_refl n)
  have hk := ok.pos
  have hn := ok.2.2.1
  refine Ct_of (by decide +kernel) (Nat.le_of_ble_eq_true rfl) (tX8_steps_0 ?_)
  refine cX8_steps_2 (C_isWord ok g42 x) g42 ⟨by decide, by decide⟩ (by decide) ⟨Nat.le_refl _, Nat.le_refl _⟩ (fun r h2 e => ?_)
  obtain ⟨rfl, rfl⟩ := e
  refine tX8_steps_5 (fun e => ?_) (fun e => ⟨by rw [aw_no ((z01 _).mp e)], rfl⟩)
  obtain ⟨w, hw, rfl⟩ := wd_pick ok (fun z => e ((z01 _).mpr z))
  obtain ⟨s1, s2, s3⟩ := ls_spec (k := k) (n := n) (w := w) (n - 1)
  have e1 : lf (nI w).toNatClampNeg = nI (lo k n w) := by rw [nI_clamp (by omega), hlf w hw]
  rw [aw_w ok _ hw]
  have hlo := lo_lt hw
  have key : ∀ m t, t + m = ls k n w (n - 1) → V G mX8_steps (b0 2) 15 [some (.ref 42), some (.int (nI w)), some (.int (nI t)), some (.int (nI (ti k n t w)))] [] h2 (Rv (.int (nI (ls k n w (n - 1)))) h2) := by
    intro m
    induction m with
    | zero =>
      intro t ht
      refine tX8_steps_15 g42 g43 (vp_in_nI (by omega) (by omega)) (fun _ => ⟨by rw [show t = ls k n w (n - 1) by omega], rfl⟩) (fun e => absurd ?_ e)
      rw [e1, show t = ls k n w (n - 1) by omega, s2]
      rfl
    | succ m ih =>
      intro t ht
      have hti := ti_lt hk hn hw t
      refine tX8_steps_15 g42 g43 (vp_in_nI (by omega) (by omega)) (fun e => absurd ?_ (s3 t (by omega))) (fun e => ?_)
      · rw [e1] at e
        exact (nI_eq (a := ti k n t w) (b := lo k n w) (by omega) (by omega)).mp e
      · refine cX8_steps_27 (C_next ok g42 hti (d := 0)) g42 ⟨by decide, by decide⟩ (by decide) ⟨Nat.le_refl _, Nat.le_refl _⟩ (fun r h2 e => ?_)
        obtain ⟨rfl, rfl⟩ := e
        refine tX8_steps_30 ?_
        rw [nI_1]
        exact ih (t + 1) (by omega)
  exact key (ls k n w (n - 1)) 0 (by omega)
theorem M_size (ok : okW k n) (g42 : h 42 = cM (nI k) (nI n) (nI (k ^ n)) ms mx mc mw ml mf mp mg) (x : Int32) : Ct G mX8_size 2 0 0 [.ref 42, .int x] h (Rv (.int (aw k n (fun w => nI (rz k n w (n - 1) 1)) x)) h) := by
  refine Ct_of (by decide +kernel) (Nat.le_of_ble_eq_true rfl) (tX8_size_0 ?_)
  refine cX8_size_2 (C_isWord ok g42 x) g42 ⟨by decide, by decide⟩ (by decide) ⟨Nat.le_refl _, Nat.le_refl _⟩ (fun r h2 e => ?_)
  obtain ⟨rfl, rfl⟩ := e
  refine tX8_size_5 (fun e => ⟨by rw [aw_no ((z01 _).mp e)], rfl⟩) (fun e => ?_)
  obtain ⟨w, hw, rfl⟩ := wd_pick ok (fun z => e ((z01 _).mpr z))
  refine cX8_size_10 (M_sizeOf ok g42 hw) g42 ⟨by decide, by decide⟩ (by decide) ⟨Nat.le_refl _, Nat.le_refl _⟩ (fun r h2 e => ?_)
  obtain ⟨rfl, rfl⟩ := e
  exact tX8_size_13 ⟨by rw [aw_w ok _ hw], rfl⟩
theorem M_even (ok : okW k n) (g42 : h 42 = cM (nI k) (nI n) (nI (k ^ n)) ms mx mc mw ml mf mp mg) (g43 : h 43 = (0, .inr (20000, .inl lf))) (hlf : ∀ w, w < k ^ n → lf w = nI (lo k n w)) (x : Int32) : Ct G mX8_even 2 0 0 [.ref 42, .int x] h (Rv (.int (aw k n (ev k n) x)) h) := by
  have hl := ok.le (Nat.le_refl n)
  have hk := ok.pos
  have hk5 := ok.2.1
  have hn2 := ok.2.2.2.1
  refine Ct_of (by decide +kernel) (Nat.le_of_ble_eq_true rfl) (tX8_even_0 ?_)
  refine cX8_even_2 (C_isWord ok g42 x) g42 ⟨by decide, by decide⟩ (by decide) ⟨Nat.le_refl _, Nat.le_refl _⟩ (fun r h2 e => ?_)
  obtain ⟨rfl, rfl⟩ := e
  refine tX8_even_5 g42 g43 (fun e => ?_) (fun e => ?_) (fun e => ⟨by rw [aw_no ((z01 _).mp e)], rfl⟩)
  · obtain ⟨w, hw, rfl⟩ := wd_pick ok (fun z => e ((z01 _).mpr z))
    exact vp_in_nI (by omega) (by omega)
  obtain ⟨w, hw, rfl⟩ := wd_pick ok (fun z => e ((z01 _).mpr z))
  have e1 : lf (nI w).toNatClampNeg = nI (lo k n w) := by rw [nI_clamp (by omega), hlf w hw]
  have hlo := lo_lt hw
  have hb : bk k n (lo k n w) 0 < k ^ n := by have := bk_lt ok.pos n (lo k n w) 0; omega
  have hlb := lo_lt hb
  rw [aw_w ok _ hw, e1]
  have key : ∀ m t r a, t + m = n → r ≤ 20000 → bk k m r a = bk k n (lo k n w) 0 → V G mX8_even (b0 2) 23 [some (.ref 42), some (.int (nI w)), some (.int (nI r)), some (.int (nI a)), some (.int (nI t))] [] h2 (Rv (.int (ev k n w)) h2) := by
    intro m
    induction m with
    | zero =>
      intro t r a ht hr hbk
      have ha : a = bk k n (lo k n w) 0 := hbk
      subst ha
      have e2 : lf (nI (bk k n (lo k n w) 0)).toNatClampNeg = nI (lo k n (bk k n (lo k n w) 0)) := by rw [nI_clamp (by omega), hlf _ hb]
      refine tX8_even_23 g42 g43 (fun _ => vp_in_nI (by omega) (by omega)) (fun _ => vp_in_nI (by omega) (by omega)) (fun _ e => ⟨?_, rfl⟩) (fun _ e => ⟨?_, rfl⟩) (fun e => absurd (nI_le (by omega) (by omega)) e) (fun e => absurd (nI_le (by omega) (by omega)) e) (fun e => absurd (nI_le (by omega) (by omega)) e)
      · rw [e1, e2] at e
        rw [ev, if_neg (fun z => e (by rw [z]))]
      · rw [e1, e2] at e
        rw [ev, if_pos ((nI_eq (by omega) (by omega)).mp e)]
    | succ m ih =>
      intro t r a ht hr hbk
      refine tX8_even_23 g42 g43 (fun e => absurd e (nI_ge (by omega) (by omega))) (fun e => absurd e (nI_ge (by omega) (by omega))) (fun e => absurd e (nI_ge (by omega) (by omega))) (fun e => absurd e (nI_ge (by omega) (by omega))) (fun _ => nI_n0 hk (by omega)) (fun _ => nI_n0 hk (by omega)) (fun _ => ?_)
      rw [pk_rem (by omega) hk (by omega), pk_div (by omega) hk (by omega), pk_mul, nI_add, nI_1]
      exact ih (t + 1) (r / k) (a * k + r % k) (by omega) (Nat.le_trans (Nat.div_le_self r k) hr) hbk
  exact key n 0 (lo k n w) 0 (by omega) (by omega) rfl
theorem i64_1000 (t : Int32) : (t.toInt64 < (0 : Int64) ∨ (1000 : Int64) < t.toInt64) ↔ (t < 0 ∨ 1000 < t) := by
  have e0 : (0 : Int64) = (0 : Int32).toInt64 := by decide
  have e1 : (1000 : Int64) = (1000 : Int32).toInt64 := by decide
  rw [e0, e1, i64_lt, i64_lt]
theorem M_turn (ok : okW k n) (g42 : h 42 = cM (nI k) (nI n) (nI (k ^ n)) ms mx mc mw ml mf mp mg) (x t : Int32) : Ct G mX8_turn 2 0 0 [.ref 42, .int x, .int t] h (Rv (.int (at_ k n x t)) h) := by
  have hl := ok.le (Nat.le_refl n)
  have hk := ok.pos
  have hn := ok.2.2.1
  have hn2 := ok.2.2.2.1
  refine Ct_of (by decide +kernel) (Nat.le_of_ble_eq_true rfl) (tX8_turn_0 ?_)
  refine cX8_turn_2 (C_isWord ok g42 x) g42 ⟨by decide, by decide⟩ (by decide) ⟨Nat.le_refl _, Nat.le_refl _⟩ (fun r h2 e => ?_)
  obtain ⟨rfl, rfl⟩ := e
  refine tX8_turn_5 (fun e => ⟨by rw [at_, if_pos ((z01 _).mp e)], rfl⟩) (fun e => ?_)
  refine cX8_turn_14 (C_in (d := 0) _ _ _) ⟨by decide, by decide⟩ (by decide) ⟨Nat.le_refl _, Nat.le_refl _⟩ (fun r h3 e3 => ?_)
  obtain ⟨rfl, rfl⟩ := e3
  refine tX8_turn_17 (fun e2 => ?_) (fun e2 => ⟨by rw [at_, if_neg (fun z => e ((z01 _).mpr z)), if_pos ((i64_1000 t).mp ((z01 _).mp e2))], rfl⟩)
  have e4 : ¬ (t < 0 ∨ 1000 < t) := fun z => e2 ((z01 _).mpr ((i64_1000 t).mpr z))
  obtain ⟨w, hw, rfl⟩ := wd_pick ok (fun z => e ((z01 _).mpr z))
  obtain ⟨j, hj, rfl⟩ := nI_of2 (M := 1000) (n := 1000) (by decide) (fun z => e4 (Or.inl z)) (Int32.not_lt.mp (fun z => e4 (Or.inr z)))
  have ea : at_ k n (nI w) (nI j) = nI (ti k n (j % n) w) := by rw [at_, if_neg (wd_no ok hw), if_neg e4, nI_clamp (by omega), nI_clamp (by omega)]
  rw [ea]
  have hr : j % n < n := Nat.mod_lt j hn
  have er : nI j - nI j / nI n * nI n = nI (j % n) := pk_rem (by omega) hn (by omega)
  have key : ∀ m i, i + m = j % n → V G mX8_turn (b0 2) 28 [some (.ref 42), some (.int (nI w)), some (.int (nI j)), some (.int (nI (ti k n i w))), some (.int (nI i))] [] h3 (Rv (.int (nI (ti k n (j % n) w))) h3) := by
    intro m
    induction m with
    | zero =>
      intro i hi
      exact tX8_turn_28 g42 (nI_n0 hn (by omega)) (fun _ => ⟨by rw [show i = j % n by omega], rfl⟩) (fun e => absurd (by rw [er]; exact nI_le (by omega) (by omega)) e)
    | succ m ih =>
      intro i hi
      have hti := ti_lt hk hn hw i
      refine tX8_turn_28 g42 (nI_n0 hn (by omega)) (fun e => absurd (by rw [er] at e; exact e) (nI_ge (by omega) (by omega))) (fun _ => ?_)
      refine cX8_turn_41 (C_next ok g42 hti (d := 0)) g42 ⟨by decide, by decide⟩ (by decide) ⟨Nat.le_refl _, Nat.le_refl _⟩ (fun r h2 e => ?_)
      obtain ⟨rfl, rfl⟩ := e
      refine tX8_turn_44 ?_
      rw [nI_1]
      exact ih (i + 1) (by omega)
  exact key (j % n) 0 (by omega)
end ST1
