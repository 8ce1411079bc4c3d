/-! the reference's wheel -/
def FT (i : Nat) : Nat := if i = 0 then 1 else 0
theorem okFT {k : Nat} (hk : 2 ≤ k) : okF k FT := fun i _ => by
  unfold FT
  split <;> omega
theorem isT_F {f : Nat → Int32} (h : isT f) : isF FT f := fun i hi => by
  unfold FT
  by_cases h0 : i = 0
  · subst h0; rw [if_pos rfl, h.1]; rfl
  · rw [if_neg h0, h.2 i (by omega) hi]; rfl
theorem hw_cases (x y : Int32) : (∃ k n, okW k n ∧ x = nI k ∧ y = nI n ∧ hw x y = nI (k ^ n)) ∨ (hw x y = 0 ∧ ∀ k n, okW k n → ¬ (x = nI k ∧ y = nI n)) := by
  by_cases hb : x < 2 ∨ 5 < x ∨ y < 1 ∨ 14 < y
  · refine Or.inr ⟨if_pos hb, fun k n ok e => ?_⟩
    obtain ⟨rfl, rfl⟩ := e
    obtain ⟨h1, h2, h3, h4, -⟩ := ok
    rcases hb with z | z | z | z
    · exact nI_nlt (b := 2) h1 (by omega) z
    · exact nI_nlt (a := 5) h2 (by decide) z
    · exact nI_nlt (b := 1) h3 (by omega) z
    · exact nI_nlt (a := 14) h4 (by decide) z
  · have e1 : ¬ x < 2 := fun z => hb (Or.inl z)
    have e2 : ¬ 5 < x := fun z => hb (Or.inr (Or.inl z))
    have e3 : ¬ y < 1 := fun z => hb (Or.inr (Or.inr (Or.inl z)))
    have e4 : ¬ 14 < y := fun z => hb (Or.inr (Or.inr (Or.inr z)))
    obtain ⟨k, hk, rfl⟩ := nI_of2 (M := 5) (n := 5) (by decide) (fun z => e1 (Int32.lt_trans z (by decide))) (Int32.not_lt.mp e2)
    obtain ⟨n, hn, rfl⟩ := nI_of2 (M := 14) (n := 14) (by decide) (fun z => e3 (Int32.lt_trans z (by decide))) (Int32.not_lt.mp e4)
    have hk2 : 2 ≤ k := by
      rcases Nat.lt_or_ge k 2 with q | q
      · exact absurd (nI_lt (b := 2) q (by decide)) e1
      · exact q
    have hn1 : 1 ≤ n := by
      rcases Nat.lt_or_ge n 1 with q | q
      · exact absurd (nI_lt (b := 1) q (by decide)) e3
      · exact q
    have eh : hw (nI k) (nI n) = nI (hm k n 1) := by rw [hw, if_neg hb, nI_clamp (by omega), nI_clamp (by omega)]
    rw [hm_eq (by omega) n 1 (by decide) (by decide), Nat.one_mul] at eh
    by_cases hc : k ^ n ≤ 20000
    · rw [if_pos hc] at eh
      exact Or.inl ⟨k, n, ⟨hk2, hk, hn1, hn, hc⟩, rfl, rfl, eh⟩
    · rw [if_neg hc] at eh
      refine Or.inr ⟨eh, fun k2 n2 ok e => ?_⟩
      have a1 := (nI_eq (by omega) (by have := ok.2.1; omega)).mp e.1
      have a2 := (nI_eq (by omega) (by have := ok.2.2.2.1; omega)).mp e.2
      subst a1; subst a2
      exact hc ok.2.2.2.2
theorem i64_r (a b : Int32) (x : Int32) : (x.toInt64 < a.toInt64 ∨ b.toInt64 < x.toInt64) ↔ (x < a ∨ b < x) := by rw [i64_lt, i64_lt]
section MW2
variable {G : gx} {mc ml mp mg k0 n0 a0 s0 mx mw mf : Int32} {lf ff tt : Nat → Int32}
theorem M_wheel {h : ah} {k n : Nat} (ok : okW k n) (g42 : h 42 = cM k0 n0 a0 s0 mx mc mw ml mf mp mg) (g43 : h 43 = aI 20000 lf) (g46 : h 46 = aI 14 ff) (g47 : h 47 = aI 20000 tt) : Ct G mX8_wheel 2 0 0 [.ref 42, .int (nI k), .int (nI n)] h (fun r h2 => r = some (.int (nI (k ^ n))) ∧ h2 42 = cM (nI k) (nI n) (nI (k ^ n)) 0 0 mc (-1) ml (-1) mp mg ∧ (∃ l2, h2 43 = aI 20000 l2 ∧ ∀ w, w < k ^ n → l2 w = nI (lo k n w)) ∧ (∃ f2, h2 46 = aI 14 f2 ∧ isT f2) ∧ (∃ t2, h2 47 = aI 20000 t2 ∧ ∀ w, w < k ^ n → t2 w = nI (ld k n FT 0 w)) ∧ Fr [42, 43, 46, 47] h h2) := by
  have hl := ok.le (Nat.le_refl n)
  have hk := ok.pos
  obtain ⟨hk2, hk5, hn, hn2, hal⟩ := id ok
  generalize hQ : (fun (r : Option Value) (h2 : ah) => r = some (.int (nI (k ^ n))) ∧ h2 42 = cM (nI k) (nI n) (nI (k ^ n)) 0 0 mc (-1) ml (-1) mp mg ∧ (∃ l2, h2 43 = aI 20000 l2 ∧ ∀ w, w < k ^ n → l2 w = nI (lo k n w)) ∧ (∃ f2, h2 46 = aI 14 f2 ∧ isT f2) ∧ (∃ t2, h2 47 = aI 20000 t2 ∧ ∀ w, w < k ^ n → t2 w = nI (ld k n FT 0 w)) ∧ Fr [42, 43, 46, 47] h h2) = Q
  have facs : ∀ m i (h1 : ah) (l1 f1 t1 : Nat → Int32), i + m = 14 → h1 42 = cM (nI k) (nI n) (nI (k ^ n)) s0 mx mc mw ml mf mp mg → h1 43 = aI 20000 l1 → (∀ w, w < k ^ n → l1 w = nI (lo k n w)) → h1 46 = aI 14 f1 → (∀ j, j < i → f1 j = nI (FT j)) → h1 47 = aI 20000 t1 → Fr [42, 43, 46, 47] h h1 → V G mX8_wheel (b0 2) 120 [some (.ref 42), some (.int (nI k)), some (.int (nI n)), some (.int (nI (k ^ n))), some (.int (nI i))] [] h1 Q := by
    intro m
    induction m with
    | zero =>
      intro i h1 l1 f1 t1 hi a42 a43 hl1 a46 hf1 a47 hfr
      have h14 : i = 14 := by omega
      subst h14
      have hT : isT f1 := ⟨hf1 0 (by decide), fun j q1 q2 => by rw [hf1 j q2, FT, if_neg (by omega)]; rfl⟩
      refine tX8_wheel_120 a42 a46 (fun _ => ?_) (fun e => absurd (by decide) e) (fun e => absurd (by decide) e) (fun e => absurd (by decide) e) (fun e => absurd (by decide) e)
      refine cX8_wheel_156 (k := 40) (d2 := 0) (mc2 := 0) (ms2 := 0) (M_lead (h := va_up h1 42 (cM (nI k) (nI n) (nI (k ^ n)) 0 mx mc mw ml mf mp mg)) (s := 0) (F := FT) ok (okFT hk2) (by omega) rfl a46 (isT_F hT) a47 (d := 0)) rfl ⟨by decide, by decide⟩ (by decide) ⟨Nat.le_refl _, Nat.le_refl _⟩ (fun r h2 e => ?_)
      obtain ⟨rfl, e42, e47, efr⟩ := e
      refine tX8_wheel_159 e42 ?_
      rw [← hQ]
      refine ⟨rfl, rfl, ⟨l1, ?_, hl1⟩, ⟨f1, ?_, hT⟩, e47, ?_⟩
      · exact (efr 43 (by decide)).trans a43
      · exact (efr 46 (by decide)).trans a46
      · exact ((Fr.tr (hfr.up (by decide)) efr (by decide)).up (by decide)).up (by decide)
    | succ m ih =>
      intro i h1 l1 f1 t1 hi a42 a43 hl1 a46 hf1 a47 hfr
      have h14 : ¬ (14 : Int32) ≤ nI i := nI_ge (b := 14) (by omega) (by decide)
      refine tX8_wheel_120 a42 a46 (fun e => absurd e h14) (fun _ _ => vp_in_nI (by omega) (by omega)) (fun _ e0 => ?_) (fun _ _ => vp_in_nI (by omega) (by omega)) (fun _ e0 => ?_)
      · rw [nI_clamp (by omega), nI_1]
        refine ih (i + 1) _ l1 (upd f1 i 0) t1 (by omega) a42 a43 hl1 rfl (fun j hj => ?_) a47 (hfr.up (by decide))
        by_cases hji : j = i
        · subst hji
          rw [pk_us, FT, if_neg (fun z => e0 (by rw [z]; rfl))]
          rfl
        · rw [pk_un hji]; exact hf1 j (by omega)
      · have i0 : i = 0 := (nI_eq (b := 0) (by omega) (by decide)).mp e0
        subst i0
        rw [nI_clamp (by omega), nI_1]
        refine ih (0 + 1) _ l1 (upd f1 0 1) t1 (by omega) a42 a43 hl1 rfl (fun j hj => ?_) a47 (hfr.up (by decide))
        rw [show j = 0 by omega, pk_us]
        rfl
  have leas : ∀ m w (h1 : ah) (l1 : Nat → Int32), w + m = k ^ n → h1 42 = cM (nI k) (nI n) (nI (k ^ n)) s0 mx mc mw ml mf mp mg → h1 43 = aI 20000 l1 → (∀ j, j < w → l1 j = nI (lo k n j)) → h1 46 = aI 14 ff → h1 47 = aI 20000 tt → Fr [42, 43, 46, 47] h h1 → V G mX8_wheel (b0 2) 89 [some (.ref 42), some (.int (nI k)), some (.int (nI n)), some (.int (nI (k ^ n))), some (.int (nI w))] [] h1 Q := by
    intro m
    induction m with
    | zero =>
      intro w h1 l1 hw a42 a43 hl1 a46 a47 hfr
      refine tX8_wheel_89 a42 (fun _ => ?_) (fun e => absurd (nI_le (by omega) (by omega)) e)
      exact facs 14 0 h1 l1 ff tt (by omega) a42 a43 (fun j hj => hl1 j (by omega)) a46 (fun j hj => absurd hj (Nat.not_lt_zero j)) a47 hfr
    | succ m ih =>
      intro w h1 l1 hw a42 a43 hl1 a46 a47 hfr
      refine tX8_wheel_89 a42 (fun e => absurd e (nI_ge (by omega) (by omega))) (fun _ => ?_)
      refine cX8_wheel_107 (M_leastOf ok a42 (w := w) (by omega)) a42 ⟨by decide, by decide⟩ (Nat.le_of_ble_eq_true rfl) ⟨Nat.le_refl _, Nat.le_refl _⟩ (fun r h2 e => ?_)
      obtain ⟨rfl, rfl⟩ := e
      refine tX8_wheel_110 a43 (vp_in_nI (by omega) (by omega)) ?_
      rw [nI_clamp (by omega), nI_1]
      refine ih (w + 1) _ (upd l1 w (nI (lo k n w))) (by omega) a42 rfl (fun j hj => ?_) a46 a47 (hfr.up (by decide))
      by_cases hjw : j = w
      · subst hjw; exact pk_us
      · rw [pk_un hjw]; exact hl1 j (by omega)
  have many : ∀ m i, i + m = n → V G mX8_wheel (b0 2) 34 [some (.ref 42), some (.int (nI k)), some (.int (nI n)), some (.int (nI (k ^ i))), some (.int (nI i))] [] h Q := by
    intro m
    induction m with
    | zero =>
      intro i hi
      have hin : i = n := by omega
      subst hin
      have h20 : nI (k ^ i) ≤ (20000 : Int32) := nI_le (b := 20000) hal (by decide)
      refine tX8_wheel_34 g42 (fun _ _ => ?_) (fun _ e => absurd h20 e) (fun e => absurd (nI_le (Nat.le_refl _) (by omega)) e) (fun e => absurd (nI_le (Nat.le_refl _) (by omega)) e)
      exact leas (k ^ i) 0 _ lf (by omega) rfl g43 (fun j hj => absurd hj (Nat.not_lt_zero j)) g46 g47 (((Fr.rf.up (by decide)).up (by decide)).up (by decide))
    | succ m ih =>
      intro i hi
      have hp := ok.le (i := i) (by omega)
      have h20 : nI (k ^ i) ≤ (20000 : Int32) := nI_le (b := 20000) hp (by decide)
      refine tX8_wheel_34 g42 (fun e => absurd e (nI_ge (by omega) (by omega))) (fun e => absurd e (nI_ge (by omega) (by omega))) (fun _ _ => ?_) (fun _ e => absurd h20 e)
      rw [pk_mul, ← Nat.pow_succ, nI_1]
      exact ih (i + 1) (by omega)
  refine Ct_of (by decide +kernel) (Nat.le_of_ble_eq_true rfl) (tX8_wheel_0 ?_)
  refine cX8_wheel_8 (C_in (d := 0) _ _ _) ⟨by decide, by decide⟩ (by decide) ⟨Nat.le_refl _, Nat.le_refl _⟩ (fun r h2 e => ?_)
  obtain ⟨rfl, rfl⟩ := e
  have i1 : ¬ ((nI k).toInt64 < (2 : Int64) ∨ (5 : Int64) < (nI k).toInt64) := by
    have := i64_r 2 5 (nI k)
    rw [show (2 : Int64) = (2 : Int32).toInt64 by decide, show (5 : Int64) = (5 : Int32).toInt64 by decide, this]
    rintro (z | z)
    · exact nI_nlt (b := 2) hk2 (by omega) z
    · exact nI_nlt (a := 5) hk5 (by decide) z
  refine tX8_wheel_11 (fun e => absurd ((z01 _).mp e) i1) (fun _ => ?_)
  refine cX8_wheel_20 (C_in (d := 0) _ _ _) ⟨by decide, by decide⟩ (by decide) ⟨Nat.le_refl _, Nat.le_refl _⟩ (fun r h3 e => ?_)
  obtain ⟨rfl, rfl⟩ := e
  have i2 : ¬ ((nI n).toInt64 < (1 : Int64) ∨ (14 : Int64) < (nI n).toInt64) := by
    have := i64_r 1 14 (nI n)
    rw [show (1 : Int64) = (1 : Int32).toInt64 by decide, show (14 : Int64) = (14 : Int32).toInt64 by decide, this]
    rintro (z | z)
    · exact nI_nlt (b := 1) hn (by omega) z
    · exact nI_nlt (a := 14) hn2 (by decide) z
  refine tX8_wheel_23 (fun _ => ?_) (fun e => absurd ((z01 _).mp e) i2)
  have := many n 0 (by omega)
  exact this
end MW2
