/-! exchange, back, cycles, cycleOf, cycle: the class's answers -/
section EX2
variable {G : gx} {k n s : Nat} {F T : Nat → Nat} {e f l : Int32}
theorem RG.g9 {h : ah} (hg : RG k n s F T e h) : ∃ s1 s2 c s3, h 9 = cR (nI s) e s1 s2 c s3 := by
  obtain ⟨s1, s2, c, s3, l0, cn, lw, pw, ff, -, -, -, g9, -⟩ := hg
  exact ⟨_, _, _, _, g9⟩
theorem RG.g3 {h : ah} (hg : RG k n s F T e h) : h 3 = cW k n := by
  obtain ⟨s1, s2, c, s3, l0, cn, lw, pw, ff, g3, -⟩ := hg
  exact g3
theorem RG.g10 {h : ah} (hg : RG k n s F T e h) : ∃ ff, h 10 = aI 14 ff ∧ isF F ff := by
  obtain ⟨s1, s2, c, s3, l0, cn, lw, pw, ff, -, -, -, -, g10, hff, -⟩ := hg
  exact ⟨_, g10, hff⟩
theorem C_right {h : ah} (ok : okW k n) (hF : okF k F) (hg : RG k n s F T e h) {d : Nat} : Ct G mX2_isRight d 0 0 [.ref 9] h (Rv (.int (if rt k (F 0) then 1 else 0)) h) := by
  obtain ⟨s1, s2, c, s3, g9⟩ := hg.g9
  obtain ⟨ff, g10, hff⟩ := hg.g10
  exact C_isRight ok hF hg.g3 g9 g10 hff
theorem X_exchange_no {h : ah} (g2 : h 2 = cX f l) (g3 : h 3 = cW k n) {x1 x2 : Int32} (hb : (x1 < 0 ∨ nI (k ^ n) ≤ x1) ∨ (x2 < 0 ∨ nI (k ^ n) ≤ x2)) : Ct G mX7_exchange 6 0 0 [.ref 2, .int x1, .int x2] h (Rv (.int (-2)) h) := by
  refine Ct_of (by decide +kernel) (Nat.le_of_ble_eq_true rfl) (tX7_exchange_0 g2 ?_)
  refine cX7_exchange_5 (k := 1) (C_has g3 x1 (d := 0)) g3 ⟨by decide, by decide⟩ (Nat.le_of_ble_eq_true rfl) ⟨Nat.le_refl _, Nat.le_refl _⟩ (fun r h2 e => ?_)
  obtain ⟨rfl, e⟩ := e; replace e := e.symm; subst e
  refine tX7_exchange_8 g2 (fun _ => ⟨rfl, rfl⟩) (fun e1 => ?_)
  refine cX7_exchange_16 (k := 1) (C_has g3 x2 (d := 0)) g3 ⟨by decide, by decide⟩ (Nat.le_of_ble_eq_true rfl) ⟨Nat.le_refl _, Nat.le_refl _⟩ (fun r h2 e => ?_)
  obtain ⟨rfl, e⟩ := e; replace e := e.symm; subst e
  refine tX7_exchange_19 g2 (fun _ => ⟨rfl, rfl⟩) (fun e2 => ?_)
  rcases hb with q | q
  · exact absurd ((z01 _).mpr q) e1
  · exact absurd ((z01 _).mpr q) e2
theorem w_no {N w : Nat} (hN : N ≤ 20000) (hw : w < N) : ¬ (nI w < 0 ∨ nI N ≤ nI w) := fun q => q.elim (nI_pos (by omega)) (nI_ge hw (by omega))
theorem X_exchange {h : ah} {a b E : Nat} {o1 o2 : Nat → Int32} (ok : okW k n) (hF : okF k F) (hs : s < k) (hT : rt k (F 0) = true → pm (k ^ n) T) (g2 : h 2 = cX f l) (hg : RG k n s F T (nI E) h) (hE : E ≤ 400) (g11 : h 11 = aI 400 o1) (g12 : h 12 = aI 400 o2) (ha : a < k ^ n) (hb : b < k ^ n) : Ct G mX7_exchange 6 0 0 [.ref 2, .int (nI a), .int (nI b)] h (fun r h2 => if ¬ (a ≠ b ∧ a % k ^ (n - 1) = b % k ^ (n - 1)) then r = some (.int (-2)) ∧ h2 = h else if rt k (F 0) = false then r = some (.int (-3)) ∧ h2 = h else if E = 400 then r = some (.int (-4)) ∧ h2 = h else r = some (.int (nI (nQ (sw T a b) (k ^ n)))) ∧ RD k n s F (sw T a b) (nI (E + 1)) h2 ∧ h2 11 = aI 400 (upd o1 E (nI a)) ∧ h2 12 = aI 400 (upd o2 E (nI b)) ∧ Fr [9, 11, 12, 13, 14, 15] h h2) := by
  have hN := ok.le (Nat.le_refl n)
  have g3 := hg.g3
  obtain ⟨s1, s2, c, s3, g9⟩ := hg.g9
  refine Ct_of (by decide +kernel) (Nat.le_of_ble_eq_true rfl) (tX7_exchange_0 g2 ?_)
  refine cX7_exchange_5 (k := 1) (C_has g3 _ (d := 0)) g3 ⟨by decide, by decide⟩ (Nat.le_of_ble_eq_true rfl) ⟨Nat.le_refl _, Nat.le_refl _⟩ (fun r h2 e => ?_)
  obtain ⟨rfl, e⟩ := e; replace e := e.symm; subst e
  refine tX7_exchange_8 g2 (fun z => absurd ((z01 _).mp z) (w_no hN ha)) (fun _ => ?_)
  refine cX7_exchange_16 (k := 1) (C_has g3 _ (d := 0)) g3 ⟨by decide, by decide⟩ (Nat.le_of_ble_eq_true rfl) ⟨Nat.le_refl _, Nat.le_refl _⟩ (fun r h2 e => ?_)
  obtain ⟨rfl, e⟩ := e; replace e := e.symm; subst e
  refine tX7_exchange_19 g2 (fun z => absurd ((z01 _).mp z) (w_no hN hb)) (fun _ => ?_)
  refine cX7_exchange_28 (k := 1) (C_differ ok g3 ha hb (d := 0)) g3 ⟨by decide, by decide⟩ (Nat.le_of_ble_eq_true rfl) ⟨Nat.le_refl _, Nat.le_refl _⟩ (fun r h2 e => ?_)
  obtain ⟨rfl, e⟩ := e; replace e := e.symm; subst e
  refine tX7_exchange_31 g2 (fun z => ?_) (fun z => ?_)
  · have hd : a ≠ b ∧ a % k ^ (n - 1) = b % k ^ (n - 1) := Decidable.not_not.mp (fun q => z (by rw [if_neg q]))
    have hdn : ¬ ¬ (a ≠ b ∧ a % k ^ (n - 1) = b % k ^ (n - 1)) := fun q => q hd
    simp only [if_neg hdn]
    refine cX7_exchange_41 (k := 7) (C_right ok hF hg (d := 0)) g9 ⟨by decide, by decide⟩ (Nat.le_of_ble_eq_true rfl) ⟨Nat.le_refl _, Nat.le_refl _⟩ (fun r h2 e => ?_)
    obtain ⟨rfl, e⟩ := e; replace e := e.symm; subst e
    refine tX7_exchange_44 g2 (fun z2 => ?_) (fun z2 => ?_)
    · rw [ri_0] at z2
      simp only [if_neg z2]
      have hr : rt k (F 0) = true := by cases hb2 : rt k (F 0) <;> simp_all
      refine cX7_exchange_54 (k := 7) (d2 := 0) (mc2 := 0) (ms2 := 0) (Q2 := Rv (.int (if E = 400 then 1 else 0)) h) (Ct_of (by decide +kernel) (Nat.le_of_ble_eq_true rfl) (tX2_isFull_0 g9 (fun z3 => ⟨?_, rfl⟩) (fun z3 => ⟨?_, rfl⟩))) g9 ⟨by decide, by decide⟩ (Nat.le_of_ble_eq_true rfl) ⟨Nat.le_refl _, Nat.le_refl _⟩ (fun r h2 e => ?_)
      · rw [if_neg (fun q => by rw [q] at z3; exact absurd z3 (by decide))]
      · rw [if_pos (Decidable.byContradiction (fun q => z3 (nI_lt (b := 400) (by omega) (by decide))))]
      · obtain ⟨rfl, e⟩ := e; replace e := e.symm; subst e
        refine tX7_exchange_57 g2 (fun z3 => ?_) (fun z3 => ?_)
        · have hE2 : ¬ E = 400 := fun q => by rw [if_pos q] at z3; exact absurd z3 (by decide)
          simp only [if_neg hE2]
          refine cX7_exchange_71 (k := 7) (C_makeExchange ok hF hs (hT hr) hg (by omega) g11 g12 ha hb hd.1) g9 ⟨by decide, by decide⟩ (Nat.le_of_ble_eq_true rfl) ⟨Nat.le_refl _, Nat.le_refl _⟩ (fun r h3 e3 => ?_)
          obtain ⟨rfl, e3⟩ := e3
          exact tX7_exchange_74 ⟨rfl, e3⟩
        · have hE2 : E = 400 := Decidable.not_not.mp (fun q => z3 (by rw [if_neg q]))
          rw [if_pos hE2]
          exact ⟨rfl, rfl⟩
    · rw [ri_0] at z2
      rw [if_pos z2]
      exact ⟨rfl, rfl⟩
  · have hd : ¬ (a ≠ b ∧ a % k ^ (n - 1) = b % k ^ (n - 1)) := fun q => by rw [if_pos q] at z; exact absurd z (by decide)
    rw [if_pos hd]
    exact ⟨rfl, rfl⟩
theorem X_back_no {h : ah} {a s1 s2 c s3 : Int32} (g2 : h 2 = cX f l) (g9 : h 9 = cR a 0 s1 s2 c s3) : Ct G mX7_back 6 0 0 [.ref 2] h (Rv (.int (-3)) h) :=
  Ct_of (by decide +kernel) (Nat.le_of_ble_eq_true rfl) (tX7_back_0 g2 g9 (fun z => absurd rfl z) (fun _ => ⟨rfl, rfl⟩))
theorem X_back {h : ah} {a b E : Nat} {o1 o2 : Nat → Int32} (ok : okW k n) (hF : okF k F) (hs : s < k) (hT : pm (k ^ n) T) (g2 : h 2 = cX f l) (hg : RG k n s F T (nI (E + 1)) h) (hE : E < 400) (g11 : h 11 = aI 400 o1) (g12 : h 12 = aI 400 o2) (h1 : o1 E = nI a) (h2 : o2 E = nI b) (ha : a < k ^ n) (hb : b < k ^ n) (hab : a ≠ b) : Ct G mX7_back 6 0 0 [.ref 2] h (fun r h2 => r = some (.int (nI E)) ∧ RD k n s F (sw T a b) (nI E) h2 ∧ Fr [9, 13, 14, 15] h h2) := by
  obtain ⟨s1, s2, c, s3, g9⟩ := hg.g9
  refine Ct_of (by decide +kernel) (Nat.le_of_ble_eq_true rfl) (tX7_back_0 g2 g9 (fun _ => ?_) (fun z => absurd z (nI_ne0 (by omega) (by omega))))
  refine cX7_back_19 (k := 7) (C_takeBack ok hF hs hT hg hE g11 g12 h1 h2 ha hb hab) g9 ⟨by decide, by decide⟩ (Nat.le_of_ble_eq_true rfl) ⟨Nat.le_refl _, Nat.le_refl _⟩ (fun r h3 e3 => ?_)
  obtain ⟨rfl, e3⟩ := e3
  exact tX7_back_22 ⟨rfl, e3⟩
theorem X_cycles {h : ah} (ok : okW k n) (hF : okF k F) (hs : s < k) (hT : rt k (F 0) = true → pm (k ^ n) T) (g2 : h 2 = cX f l) (hg : RG k n s F T e h) : Ct G mX7_cycles 4 0 0 [.ref 2] h (fun r h2 => r = some (.int (if rt k (F 0) then nI (nQ T (k ^ n)) else -3)) ∧ RG k n s F T e h2 ∧ Fr [9, 13, 14, 15] h h2) := by
  obtain ⟨s1, s2, c, s3, g9⟩ := hg.g9
  refine Ct_of (by decide +kernel) (Nat.le_of_ble_eq_true rfl) (tX7_cycles_0 g2 ?_)
  refine cX7_cycles_4 (k := 7) (C_right ok hF hg (d := 0)) g9 ⟨by decide, by decide⟩ (Nat.le_of_ble_eq_true rfl) ⟨Nat.le_refl _, Nat.le_refl _⟩ (fun r h2 e => ?_)
  obtain ⟨rfl, e⟩ := e; replace e := e.symm; subst e
  refine tX7_cycles_7 g2 (fun z => ?_) (fun z => ?_)
  · rw [ri_0] at z
    rw [z]
    exact ⟨rfl, hg, Fr.rf⟩
  · rw [ri_0] at z
    have hr : rt k (F 0) = true := by cases hb2 : rt k (F 0) <;> simp_all
    refine cX7_cycles_14 (k := 7) (C_howL ok hF hs (hT hr) hg) g9 ⟨by decide, by decide⟩ (Nat.le_of_ble_eq_true rfl) ⟨Nat.le_refl _, Nat.le_refl _⟩ (fun r h3 e3 => ?_)
    obtain ⟨rfl, hd, hf⟩ := e3
    refine tX7_cycles_17 ⟨?_, hd.rg, hf⟩
    rw [if_pos hr]
/-- cycleOf's answer -/
def a_cof (R : Bool) (N : Nat) (c : Nat → Int32) (x : Int32) : Int32 := if R = false then -3 else if x < 0 ∨ nI N ≤ x then -2 else c x.toNatClampNeg
theorem X_cycleOf {h : ah} (ok : okW k n) (hF : okF k F) (hs : s < k) (hT : rt k (F 0) = true → pm (k ^ n) T) (g2 : h 2 = cX f l) (hg : RG k n s F T e h) (x : Int32) : Ct G mX7_cycleOf 4 0 0 [.ref 2, .int x] h (fun r h2 => r = some (.int (a_cof (rt k (F 0)) (k ^ n) (nC T (k ^ n)) x)) ∧ RG k n s F T e h2 ∧ Fr [9, 13, 14, 15] h h2) := by
  have hN := ok.le (Nat.le_refl n)
  obtain ⟨s1, s2, c, s3, g9⟩ := hg.g9
  refine Ct_of (by decide +kernel) (Nat.le_of_ble_eq_true rfl) (tX7_cycleOf_0 g2 ?_)
  refine cX7_cycleOf_4 (k := 7) (C_right ok hF hg (d := 0)) g9 ⟨by decide, by decide⟩ (Nat.le_of_ble_eq_true rfl) ⟨Nat.le_refl _, Nat.le_refl _⟩ (fun r h2 e => ?_)
  obtain ⟨rfl, e⟩ := e; replace e := e.symm; subst e
  refine tX7_cycleOf_7 g2 (fun z => ?_) (fun z => ?_)
  · rw [ri_0] at z
    have hr : rt k (F 0) = true := by cases hb2 : rt k (F 0) <;> simp_all
    refine cX7_cycleOf_18 (k := 1) (C_has hg.g3 x (d := 0)) hg.g3 ⟨by decide, by decide⟩ (Nat.le_of_ble_eq_true rfl) ⟨Nat.le_refl _, Nat.le_refl _⟩ (fun r h2 e => ?_)
    obtain ⟨rfl, e⟩ := e; replace e := e.symm; subst e
    refine tX7_cycleOf_21 g2 (fun z2 => ?_) (fun z2 => ?_)
    · exact ⟨by rw [a_cof, if_neg z, if_pos ((z01 _).mp z2)], hg, Fr.rf⟩
    · have hx : ¬ (x < 0 ∨ nI (k ^ n) ≤ x) := fun q => z2 ((z01 _).mpr q)
      obtain ⟨w, hw, rfl⟩ := p_pick hN hx
      refine cX7_cycleOf_29 (k := 7) (C_numberOf ok hF hs (hT hr) hg hw) g9 ⟨by decide, by decide⟩ (Nat.le_of_ble_eq_true rfl) ⟨Nat.le_refl _, Nat.le_refl _⟩ (fun r h3 e3 => ?_)
      obtain ⟨rfl, hd, hf⟩ := e3
      refine tX7_cycleOf_32 ⟨?_, hd, hf⟩
      rw [a_cof, if_neg z, if_neg hx, nI_clamp (by omega)]
  · rw [ri_0] at z
    exact ⟨by rw [a_cof, if_pos z], hg, Fr.rf⟩
/-- cycle's answer -/
def a_cyc (R : Bool) (N q : Nat) (c : Nat → Int32) (lw : Nat → Int32) (x y : Int32) : Int32 := if R = false then -3 else if x < 0 ∨ nI q ≤ x then -2 else if y = 0 then lw x.toNatClampNeg else if y = 1 then nI (cs (fun w => decide (c w = x)) N) else -2
theorem X_cycle {h : ah} (ok : okW k n) (hF : okF k F) (hs : s < k) (hT : rt k (F 0) = true → pm (k ^ n) T) (g2 : h 2 = cX f l) (hg : RG k n s F T e h) (x y : Int32) : Ct G mX7_cycle 4 0 0 [.ref 2, .int x, .int y] h (fun r h2 => r = some (.int (a_cyc (rt k (F 0)) (k ^ n) (nQ T (k ^ n)) (nC T (k ^ n)) (nL T (k ^ n)) x y)) ∧ RG k n s F T e h2 ∧ Fr [9, 13, 14, 15] h h2) := by
  have hN := ok.le (Nat.le_refl n)
  obtain ⟨s1, s2, c, s3, g9⟩ := hg.g9
  refine Ct_of (by decide +kernel) (Nat.le_of_ble_eq_true rfl) (tX7_cycle_0 g2 ?_)
  refine cX7_cycle_4 (k := 7) (C_right ok hF hg (d := 0)) g9 ⟨by decide, by decide⟩ (Nat.le_of_ble_eq_true rfl) ⟨Nat.le_refl _, Nat.le_refl _⟩ (fun r h2 e => ?_)
  obtain ⟨rfl, e⟩ := e; replace e := e.symm; subst e
  refine tX7_cycle_7 g2 (fun z z2 => ?_) (fun z z2 => ?_) (fun z => ?_)
  · rw [ri_0] at z
    exact ⟨by rw [a_cyc, if_neg z, if_pos (Or.inl z2)], hg, Fr.rf⟩
  · rw [ri_0] at z
    have hr : rt k (F 0) = true := by cases hb2 : rt k (F 0) <;> simp_all
    have hq := nQ_le (hT hr) hN
    refine cX7_cycle_22 (k := 7) (C_howL ok hF hs (hT hr) hg) g9 ⟨by decide, by decide⟩ (Nat.le_of_ble_eq_true rfl) ⟨Nat.le_refl _, Nat.le_refl _⟩ (fun r h3 e3 => ?_)
    obtain ⟨rfl, hd, hf⟩ := e3
    have k2 := (hf 2 (by decide)).trans g2
    have hd2 := hd.rg
    obtain ⟨s1, s2, c, s3, k9⟩ := hd2.g9
    refine tX7_cycle_25 (fun z3 => ?_) (fun z3 => ?_)
    · have hx : ¬ (x < 0 ∨ nI (nQ T (k ^ n)) ≤ x) := fun q => q.elim z2 (fun q => absurd z3 (Int32.not_lt.mpr q))
      obtain ⟨j, hj, rfl⟩ := p_pick (by omega) hx
      by_cases h0 : y = 0
      · subst h0
        refine V_look (off := 28) (t := 60) dX7_cycle_32 (by decide +kernel) (by decide +kernel) (by decide) (tX7_cycle_60 k2 ?_)
        refine cX7_cycle_65 (k := 7) (C_leastOfC ok hF hs (hT hr) hd2 hj) k9 ⟨by decide, by decide⟩ (Nat.le_of_ble_eq_true rfl) ⟨Nat.le_refl _, Nat.le_refl _⟩ (fun r h4 e3 => ?_)
        obtain ⟨rfl, hd3, hf3⟩ := e3
        refine tX7_cycle_68 ⟨?_, hd3, Fr.tr hf hf3 (by decide)⟩
        rw [a_cyc, if_neg z, if_neg hx, if_pos rfl, nI_clamp (by omega)]
      · by_cases h1 : y = 1
        · subst h1
          refine V_look (off := 37) (t := 69) dX7_cycle_32 (by decide +kernel) (by decide +kernel) (by decide) (tX7_cycle_69 k2 ?_)
          refine cX7_cycle_74 (k := 7) (C_wordsOf ok hF hs (hT hr) hd2 hj) k9 ⟨by decide, by decide⟩ (Nat.le_of_ble_eq_true rfl) ⟨Nat.le_refl _, Nat.le_refl _⟩ (fun r h4 e3 => ?_)
          obtain ⟨rfl, hd3, hf3⟩ := e3
          refine tX7_cycle_77 ⟨?_, hd3, Fr.tr hf hf3 (by decide)⟩
          rw [a_cyc, if_neg z, if_neg hx, if_neg h0, if_pos rfl]
        · refine V_look (off := 46) (t := 78) dX7_cycle_32 (by decide +kernel) ?_ (by decide) (tX7_cycle_78 ⟨?_, hd2, hf⟩)
          · show Op.lookupswitch.offset [(0, 28), (1, 37)] 46 y.toInt = 46
            rw [lv_osw (k := 0) h0 (by decide), lv_osw (k := 1) h1 (by decide)]
            rfl
          · rw [a_cyc, if_neg z, if_neg hx, if_neg h0, if_neg h1]
    · exact ⟨by rw [a_cyc, if_neg z, if_pos (Or.inr (Int32.not_lt.mp z3))], hd2, hf⟩
  · rw [ri_0] at z
    exact ⟨by rw [a_cyc, if_pos z], hg, Fr.rf⟩
end EX2
