/-! put, tape of the reference -/
theorem c16 (v : Int32) : (v &&& (65535 : Int32)) = (v.toUInt32 % 65536).toInt32 := by
  rw [pk_char, pk_and v (m := 65535) 16 (by decide)]
section MP
variable {G : gx} {h : ah} {k n a s mx mc mw ml mf mp mg : Int32} {fs sz it : Nat → Int32}
theorem M_put_no (g42 : h 42 = cM k n a s mx mc mw ml mf mp mg) {x y z v : Int32} (hb : (x < 0 ∨ 4 ≤ x) ∨ (y < 0 ∨ 2 < y)) : Ct G mX8_put 2 0 0 [.ref 42, .int x, .int y, .int z, .int v] h (Rv (.int (-2)) h) := by
  refine Ct_of (by decide +kernel) (Nat.le_of_ble_eq_true rfl) (tX8_put_0 ?_)
  refine cX8_put_1 (M_isTape x) ⟨by decide, by decide⟩ (by decide) ⟨Nat.le_refl _, Nat.le_refl _⟩ (fun r h1 e => ?_)
  obtain ⟨rfl, rfl⟩ := e
  refine tX8_put_4 (fun _ => ⟨rfl, rfl⟩) (fun e1 => ?_)
  refine cX8_put_13 (C_in (d := 0) _ _ _) ⟨by decide, by decide⟩ (by decide) ⟨Nat.le_refl _, Nat.le_refl _⟩ (fun r h2 e => ?_)
  obtain ⟨rfl, rfl⟩ := e
  refine tX8_put_16 (fun e2 => ?_) (fun _ => ⟨rfl, rfl⟩)
  rcases hb with q | q
  · exact absurd ((z01 _).mpr q) e1
  · exact absurd ((z01 _).mpr ((f64_2 y).mpr q)) e2
theorem M_put {t L : Nat} {y x v : Int32} (g42 : h 42 = cM k n a s mx mc mw ml mf mp mg) (g55 : h 55 = aI 4 fs) (g56 : h 56 = aI 4 sz) (g57 : h 57 = aI 800 it) (ht : t < 4) (hL : L ≤ 200) (hneg : 0 ≤ fs t ↔ ¬ fs t = -1) (hsz : sz t = nI L) (hy : ¬ (y < 0 ∨ 2 < y)) : Ct G mX8_put 2 0 0 [.ref 42, .int (nI t), .int y, .int x, .int v] h (fun r h2 => if fo (fs t) (nI L) y x = 0 then r = some (.int 1) ∧ h2 = va_up h 57 (aI 800 (upd it (200 * t + x.toNatClampNeg) (ft (fs t) v))) else r = some (.int (-10 - fo (fs t) (nI L) y x)) ∧ h2 = va_up h 42 (cM k n a s mx mc mw (fo (fs t) (nI L) y x) mf mp mg)) := by
  refine Ct_of (by decide +kernel) (Nat.le_of_ble_eq_true rfl) (tX8_put_0 ?_)
  refine cX8_put_1 (M_isTape _) ⟨by decide, by decide⟩ (by decide) ⟨Nat.le_refl _, Nat.le_refl _⟩ (fun r h1 e => ?_)
  obtain ⟨rfl, rfl⟩ := e
  refine tX8_put_4 (fun e => absurd ((z01 _).mp e) (t4_no ht)) (fun e1 => ?_)
  refine cX8_put_13 (C_in (d := 0) _ _ _) ⟨by decide, by decide⟩ (by decide) ⟨Nat.le_refl _, Nat.le_refl _⟩ (fun r h2 e => ?_)
  obtain ⟨rfl, rfl⟩ := e
  refine tX8_put_16 (fun e2 => ?_) (fun e => absurd ((f64_2 y).mp ((z01 _).mp e)) hy)
  refine cX8_put_26 (k := 40) (M_lacks g42 g55 g56 ht hneg hsz) g42 ⟨by decide, by decide⟩ (by decide) ⟨Nat.le_refl _, Nat.le_refl _⟩ (fun r h3 e => ?_)
  by_cases hf : fo (fs t) (nI L) y x = 0
  · rw [if_pos hf] at e
    obtain ⟨rfl, rfl⟩ := e
    obtain ⟨-, hfy, j, hj, rfl⟩ := fo_0 hL hf
    have hin : vp_in (((200 : Int32) * nI t) + nI j) 800 := by rw [ix_200]; exact vp_in_nI (by omega) (by decide)
    refine tX8_put_29 g42 g57 (fun _ _ _ => hin) (fun _ q1 q2 => ?_) (fun _ _ _ => hin) (fun _ q1 q2 => ?_) (fun _ _ => hin) (fun _ q1 => ?_) (fun e => absurd rfl e)
    · rw [if_pos hf, ix_200, nI_clamp (by omega), nI_clamp (by omega), hfy, ft, if_neg q1, if_neg q2]
      exact ⟨rfl, rfl⟩
    · rw [if_pos hf, ix_200, nI_clamp (by omega), nI_clamp (by omega), hfy, ft, if_neg q1, if_pos q2, c16]
      exact ⟨rfl, rfl⟩
    · rw [if_pos hf, ix_200, nI_clamp (by omega), nI_clamp (by omega), hfy, ft, if_pos q1]
      exact ⟨rfl, rfl⟩
  · rw [if_neg hf] at e
    obtain ⟨rfl, rfl⟩ := e
    have hne : ¬ (-10 - fo (fs t) (nI L) y x) = 0 := by
      unfold fo
      split
      · decide
      · split
        · decide
        · split <;> decide
    refine tX8_put_29 (h := va_up h2 42 (cM k n a s mx mc mw (fo (fs t) (nI L) y x) mf mp mg)) rfl g57 (fun e => absurd e hne) (fun e => absurd e hne) (fun e => absurd e hne) (fun e => absurd e hne) (fun e => absurd e hne) (fun e => absurd e hne) (fun _ => ?_)
    rw [if_neg hf]
    exact ⟨rfl, rfl⟩
theorem M_tape_no (g42 : h 42 = cM k n a s mx mc mw ml mf mp mg) (g55 : h 55 = aI 4 fs) (g56 : h 56 = aI 4 sz) {x y z : Int32} (hb : (x < 0 ∨ 4 ≤ x) ∨ (y < 0 ∨ 2 < y) ∨ 200 < z) : Ct G mX8_tape 2 0 0 [.ref 42, .int x, .int y, .int z] h (Rv (.int (-2)) h) := by
  refine Ct_of (by decide +kernel) (Nat.le_of_ble_eq_true rfl) (tX8_tape_0 ?_)
  refine cX8_tape_1 (M_isTape x) ⟨by decide, by decide⟩ (by decide) ⟨Nat.le_refl _, Nat.le_refl _⟩ (fun r h1 e => ?_)
  obtain ⟨rfl, rfl⟩ := e
  refine tX8_tape_4 (fun _ => ⟨rfl, rfl⟩) (fun e1 => ?_)
  refine cX8_tape_13 (C_in (d := 0) _ _ _) ⟨by decide, by decide⟩ (by decide) ⟨Nat.le_refl _, Nat.le_refl _⟩ (fun r h2 e => ?_)
  obtain ⟨rfl, rfl⟩ := e
  have key : ¬ (if y.toInt64 < (0 : Int64) ∨ (2 : Int64) < y.toInt64 then (0 : Int32) else 1) = 0 → z ≤ 200 → False := fun e2 e3 => by
    rcases hb with q | q | q
    · exact e1 ((z01 _).mpr q)
    · exact e2 ((z01 _).mpr ((f64_2 y).mpr q))
    · exact Int32.not_le.mpr q e3
  exact tX8_tape_16 g42 g55 g56 (fun _ => ⟨rfl, rfl⟩) (fun a b => (key a b).elim) (fun a b => (key a b).elim) (fun a b => (key a b).elim) (fun a b => (key a b).elim) (fun _ _ => ⟨rfl, rfl⟩)
theorem M_tape_neg (g42 : h 42 = cM k n a s mx mc mw ml mf mp mg) (g55 : h 55 = aI 4 fs) (g56 : h 56 = aI 4 sz) {x y z : Int32} (hx : ¬ (x < 0 ∨ 4 ≤ x)) (hy : ¬ (y < 0 ∨ 2 < y)) (hz : z < 0) : Ct G mX8_tape 2 0 0 [.ref 42, .int x, .int y, .int z] h (Rv (.int (-15)) (va_up h 42 (cM k n a s mx mc mw 5 mf mp mg))) := by
  have hz2 : z ≤ 200 := Int32.le_of_lt (Int32.lt_trans hz (by decide))
  refine Ct_of (by decide +kernel) (Nat.le_of_ble_eq_true rfl) (tX8_tape_0 ?_)
  refine cX8_tape_1 (M_isTape x) ⟨by decide, by decide⟩ (by decide) ⟨Nat.le_refl _, Nat.le_refl _⟩ (fun r h1 e => ?_)
  obtain ⟨rfl, rfl⟩ := e
  refine tX8_tape_4 (fun e => absurd ((z01 _).mp e) hx) (fun e1 => ?_)
  refine cX8_tape_13 (C_in (d := 0) _ _ _) ⟨by decide, by decide⟩ (by decide) ⟨Nat.le_refl _, Nat.le_refl _⟩ (fun r h2 e => ?_)
  obtain ⟨rfl, rfl⟩ := e
  refine tX8_tape_16 g42 g55 g56 (fun e => absurd ((f64_2 y).mp ((z01 _).mp e)) hy) (fun _ _ e => absurd hz (Int32.not_lt.mpr e)) (fun _ _ e => absurd hz (Int32.not_lt.mpr e)) (fun _ _ e => absurd hz (Int32.not_lt.mpr e)) (fun _ _ _ => ?_) (fun _ e => absurd hz2 e)
  refine cX8_tape_35 (k := 40) (M_met g42 5 (d := 0)) g42 ⟨by decide, by decide⟩ (by decide) ⟨Nat.le_refl _, Nat.le_refl _⟩ (fun r h3 e => ?_)
  obtain ⟨rfl, rfl⟩ := e
  exact tX8_tape_38 ⟨by rw [show (-10 : Int32) - 5 = -15 by decide], rfl⟩
theorem M_tape {t L : Nat} {y : Int32} (g42 : h 42 = cM k n a s mx mc mw ml mf mp mg) (g55 : h 55 = aI 4 fs) (g56 : h 56 = aI 4 sz) (g57 : h 57 = aI 800 it) (ht : t < 4) (hL : L ≤ 200) (hy : ¬ (y < 0 ∨ 2 < y)) : Ct G mX8_tape 2 0 0 [.ref 42, .int (nI t), .int y, .int (nI L)] h (Rv (.int (nI L)) (va_up (va_up (va_up h 55 (aI 4 (upd fs t y))) 56 (aI 4 (upd sz t (nI L)))) 57 (aI 800 (fl it (200 * t) (200 * t + L) 0)))) := by
  have hc : (nI t).toNatClampNeg = t := nI_clamp (by omega)
  refine Ct_of (by decide +kernel) (Nat.le_of_ble_eq_true rfl) (tX8_tape_0 ?_)
  refine cX8_tape_1 (M_isTape _) ⟨by decide, by decide⟩ (by decide) ⟨Nat.le_refl _, Nat.le_refl _⟩ (fun r h1 e => ?_)
  obtain ⟨rfl, rfl⟩ := e
  refine tX8_tape_4 (fun e => absurd ((z01 _).mp e) (t4_no ht)) (fun e1 => ?_)
  refine cX8_tape_13 (C_in (d := 0) _ _ _) ⟨by decide, by decide⟩ (by decide) ⟨Nat.le_refl _, Nat.le_refl _⟩ (fun r h2 e => ?_)
  obtain ⟨rfl, rfl⟩ := e
  refine tX8_tape_16 g42 g55 g56 (fun e => absurd ((f64_2 y).mp ((z01 _).mp e)) hy) (fun _ _ _ => vp_in_nI ht (by decide)) (fun _ _ _ => vp_in_nI ht (by decide)) (fun _ _ _ => ?_) (fun _ _ e => absurd (nI_pos' (by omega)) e) (fun _ e => absurd (nI_le (b := 200) hL (by decide)) e)
  rw [hc]
  have key : ∀ m j, j + m = L → V G mX8_tape (b0 2) 56 [some (.ref 42), some (.int (nI t)), some (.int y), some (.int (nI L)), some (.int (nI j))] [] (va_up (va_up (va_up h2 55 (aI 4 (upd fs t y))) 56 (aI 4 (upd sz t (nI L)))) 57 (aI 800 (fl it (200 * t) (200 * t + j) 0))) (Rv (.int (nI L)) (va_up (va_up (va_up h2 55 (aI 4 (upd fs t y))) 56 (aI 4 (upd sz t (nI L)))) 57 (aI 800 (fl it (200 * t) (200 * t + L) 0)))) := by
    intro m
    induction m with
    | zero =>
      intro j hj
      exact tX8_tape_56 g42 rfl (fun _ => ⟨rfl, by rw [show j = L by omega]⟩) (fun e => absurd (nI_le (by omega) (by omega)) e) (fun e => absurd (nI_le (by omega) (by omega)) e)
    | succ m ih =>
      intro j hj
      refine tX8_tape_56 g42 rfl (fun e => absurd e (nI_ge (by omega) (by omega))) (fun _ => by rw [ix_200]; exact vp_in_nI (by omega) (by decide)) (fun _ => ?_)
      rw [ix_200, nI_clamp (by omega), fl_s it 0 (by omega), nI_1, bx_uu]
      exact ih (j + 1) (by omega)
  have hh : va_up (va_up (va_up h2 55 (aI 4 (upd fs t y))) 56 (aI 4 (upd sz t (nI L)))) 57 (aI 800 (fl it (200 * t) (200 * t + 0) 0)) = va_up (va_up h2 55 (aI 4 (upd fs t y))) 56 (aI 4 (upd sz t (nI L))) := by
    funext j
    by_cases hj : j = 57
    · subst hj
      rw [up_s, Nat.add_zero, fl_0, up_n _ _ (by decide), up_n _ _ (by decide), g57]
    · rw [up_n _ _ hj]
  have := key L 0 (by omega)
  rw [hh] at this
  exact this
end MP
