/-! constructors of Words and Register -/
abbrev cR (a e l n c s : Int32) : ce := (2, .inl [.ref 3, .ref 10, .int a, .ref 11, .ref 12, .int e, .ref 13, .int l, .ref 14, .ref 15, .int n, .int c, .int s, .ref 16])
theorem C_fillA {G : gx} {h : ah} {p n d : Nat} {f : Nat → Int32} (v : Int32) (gp : h (p + 2) = aI n f) (h3 : n < 2 ^ 31) : Ct G mJ7_fill_53178 d 0 0 [.ref (p + 2), .int v] h (fun r h2 => r = none ∧ h2 = va_up h (p + 2) (aI n (fl f 0 n v))) := by
  have key : ∀ m j, j + m = n → V G mJ7_fill_53178 (b0 d) 5 [some (.ref (p + 2)), some (.int v), some (.int (nI j)), some (.int (nI n))] [] (va_up h (p + 2) (aI n (fl f 0 j v))) (fun r h2 => r = none ∧ h2 = va_up h (p + 2) (aI n (fl f 0 n v))) := by
    intro m
    induction m with
    | zero =>
      intro j hj
      exact tJ7_fill_53178_5 (up_s _ _ _) (fun _ => ⟨rfl, by rw [show j = n by omega]⟩) (fun e => absurd (nI_le (by omega) (by omega)) e) (fun e => absurd (nI_le (by omega) (by omega)) e)
    | succ m ih =>
      intro j hj
      refine tJ7_fill_53178_5 (up_s _ _ _) (fun e => absurd e (nI_ge (by omega) (by omega))) (fun _ => vp_in_nI (by omega) (by omega)) (fun _ => ?_)
      rw [nI_clamp (by omega), fl_s f v (Nat.zero_le j), nI_1, bx_uu]
      exact ih (j + 1) (by omega)
  refine Ct_of (by decide +kernel) (Nat.le_of_ble_eq_true rfl) (tJ7_fill_53178_0 gp ?_)
  have hh : va_up h (p + 2) (aI n (fl f 0 0 v)) = h := by
    funext j
    by_cases hj : j = p + 2
    · subst hj; rw [up_s, fl_0, gp]
    · rw [up_n _ _ hj]
  have := key n 0 (by omega)
  rw [hh] at this
  exact this
theorem C_forget {G : gx} {h : ah} {a e l n c s : Int32} (g9 : h 9 = cR a e l n c s) {d : Nat} : Ct G mX2_forgetExchanges d 0 0 [.ref 9] h (fun r h2 => r = none ∧ h2 = va_up h 9 (cR a 0 0 0 c 0)) :=
  Ct_of (by decide +kernel) (Nat.le_of_ble_eq_true rfl) (tX2_forgetExchanges_0 g9 ⟨rfl, by rw [bx_uu, bx_uu, bx_uu]⟩)
/-- the factors that turn -/
def isT (f : Nat → Int32) : Prop := f 0 = 1 ∧ ∀ j, 1 ≤ j → j < 14 → f j = 0
theorem C_turning {G : gx} {h : ah} {a e l n c s : Int32} {f : Nat → Int32} (g9 : h 9 = cR a e l n c s) (g10 : h 10 = aI 14 f) : Ct G mX2_becomeTurning 1 0 0 [.ref 9] h (fun r h2 => r = none ∧ h2 9 = cR 0 0 0 0 c 0 ∧ (∃ f2, h2 10 = aI 14 f2 ∧ isT f2) ∧ Fr [9, 10] h h2) := by
  refine Ct_of (by decide +kernel) (Nat.le_of_ble_eq_true rfl) (tX2_becomeTurning_0 g9 ?_)
  refine cX2_becomeTurning_5 (C_fillA (p := 8) (d := 0) 0 g10 (by decide)) ⟨by decide, by decide⟩ (by decide) ⟨Nat.le_refl _, Nat.le_refl _⟩ (fun r h2 e => ?_)
  obtain ⟨rfl, rfl⟩ := e
  refine tX2_becomeTurning_8 (rfac := fl f 0 14 0) g9 rfl (vp_in_nI (n := 0) (by decide) (by decide)) ?_
  refine cX2_becomeTurning_21 (k := 7) (C_forget (d := 0) rfl) rfl ⟨by decide, by decide⟩ (by decide) ⟨Nat.le_refl _, Nat.le_refl _⟩ (fun r h2 e => ?_)
  obtain ⟨rfl, rfl⟩ := e
  refine tX2_becomeTurning_24 ⟨rfl, rfl, ⟨_, rfl, pk_us, fun j h1 h2 => ?_⟩, (((Fr.rf.up (by decide)).up (by decide)).up (by decide)).up (by decide)⟩
  have hz : (0 : Int32).toNatClampNeg = 0 := by decide
  rw [hz, pk_un (by omega), fl, if_pos ⟨Nat.zero_le _, h2⟩]
theorem ok23 : okW 2 3 := ⟨by decide, by decide, by decide, by decide, by decide⟩
set_option maxRecDepth 100000 in
theorem K_X6 {G : gx} {h : ah} (g : h 3 = (6, .inl [.null, .int (0 : Int32), .int (0 : Int32), .int (0 : Int32), .int (0 : Int32)])) (g0 : (h 0).1 = 2) : Ct G mX6_init 1 1 15 [.ref 3] h (fun r h2 => r = none ∧ h2 3 = cW 2 3 ∧ (∃ pw, h2 4 = aI 15 pw ∧ isP 2 3 pw) ∧ (h2 0).1 = 3 ∧ Fr [0, 3, 4] h h2) := by
  refine Ct_of (by decide +kernel) (Nat.le_of_ble_eq_true rfl) (nX6_init_0 ⟨by decide, by decide⟩ ⟨Nat.le_of_eq (Nat.zero_add _), Nat.le_of_eq (Nat.zero_add _)⟩ g g0 ?_)
  refine V_callV (k := 1) (As := [.int (nI 2), .int (nI 3)]) (S := []) (ci := 6) (T := TX6) (N := 5) (C_become (k := 2) (n := 3) ok23 rfl rfl (d := 0)) dX6_init_15 ⟨km_X6_15, ki_X6_become, ks_X6_become⟩ cw_X6_become rfl rfl (by decide) ⟨by decide, by decide⟩ rfl rfl (by decide) ⟨Nat.le_refl _, Nat.le_refl _⟩ (fun r h2 e => ?_)
  obtain ⟨rfl, e1, e2, e3⟩ := e
  refine V_vret dX6_init_18 rfl ⟨rfl, e1, e2, ?_, ?_⟩
  · rw [e3 0 (by decide)]
    rfl
  · exact Fr.tr (((Fr.rf.up (by decide)).up (by decide)).up (by decide)) e3 (by decide)
set_option maxRecDepth 100000 in
theorem K_X2 {G : gx} {h : ah} (g : h 9 = (2, .inl [.null, .null, .int (0 : Int32), .null, .null, .int (0 : Int32), .null, .int (0 : Int32), .null, .null, .int (0 : Int32), .int (0 : Int32), .int (0 : Int32), .null])) (g0 : (h 0).1 = 8) : Ct G mX2_init 2 7 61215 [.ref 9, .ref 3] h (fun r h2 => r = none ∧ h2 9 = cR 0 0 0 0 0 0 ∧ (∃ f, h2 10 = aI 14 f ∧ isT f) ∧ h2 11 = aI 400 (fun _ => 0) ∧ h2 12 = aI 400 (fun _ => 0) ∧ h2 13 = aI 20000 (fun _ => 0) ∧ h2 14 = aI 20000 (fun _ => 0) ∧ h2 15 = aI 20000 (fun _ => 0) ∧ h2 16 = aI 401 (fun _ => 0) ∧ (h2 0).1 = 15 ∧ Fr [0, 9, 10, 11, 12, 13, 14, 15, 16] h h2) := by
  refine Ct_of (by decide +kernel) (Nat.le_of_ble_eq_true rfl) (nX2_init_0 ⟨by decide, by decide⟩ ⟨Nat.le_of_eq (Nat.zero_add _), Nat.le_of_eq (Nat.zero_add _)⟩ g g0 ?_)
  refine V_callV (k := 7) (As := []) (S := []) (ci := 2) (T := TX2) (N := 14) (C_turning (f := fun _ => 0) rfl rfl) dX2_init_72 ⟨km_X2_37, ki_X2_becomeTurning, ks_X2_becomeTurning⟩ cw_X2_becomeTurning rfl rfl (by decide) ⟨by decide, by decide⟩ rfl rfl (by decide) ⟨Nat.le_refl _, Nat.le_refl _⟩ (fun r h2 e => ?_)
  obtain ⟨rfl, e1, e2, e3⟩ := e
  refine V_vret dX2_init_75 rfl ⟨rfl, e1, e2, e3 11 (by decide), e3 12 (by decide), e3 13 (by decide), e3 14 (by decide), e3 15 (by decide), e3 16 (by decide), ?_, ?_⟩
  · rw [e3 0 (by decide)]
    rfl
  · refine Fr.tr ?_ e3 (by decide)
    repeat (refine Fr.up ?_ (by decide))
    exact Fr.rf
