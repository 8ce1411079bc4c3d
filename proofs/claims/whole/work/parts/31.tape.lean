/-! CONTRACTS of Tape and of WordWheel's own small methods -/
theorem C_isTape {G : gx} {h : ah} (x : Int32) {d : Nat} : Ct G mX7_isTape d 0 0 [.int x] h (Rv (.int (if x < 0 ∨ 4 ≤ x then 0 else 1)) h) :=
  Ct_of (by decide +kernel) (Nat.le_of_ble_eq_true rfl) (tX7_isTape_0 (fun e => ⟨by rw [if_pos (Or.inl e)], rfl⟩) (fun _ e => ⟨by rw [if_pos (Or.inr e)], rfl⟩) (fun e1 e2 => ⟨by rw [if_neg (fun z => z.elim e1 e2)], rfl⟩))
theorem C_isForm {G : gx} {h : ah} (x : Int32) {d : Nat} : Ct G mX7_isForm d 0 0 [.int x] h (Rv (.int (if x < 0 ∨ 2 < x then 0 else 1)) h) :=
  Ct_of (by decide +kernel) (Nat.le_of_ble_eq_true rfl) (tX7_isForm_0 (fun e => ⟨by rw [if_pos (Or.inl e)], rfl⟩) (fun _ e => ⟨by rw [if_pos (Or.inr e)], rfl⟩) (fun e1 e2 => ⟨by rw [if_neg (fun z => z.elim e1 e2)], rfl⟩))
theorem C_finding {G : gx} {h : ah} {f l : Int32} (g2 : h 2 = cX f l) (x : Int32) {d : Nat} : Ct G mX7_finding d 0 0 [.ref 2, .int x] h (Rv (.int (-10 - x)) (va_up h 2 (cX f x))) :=
  Ct_of (by decide +kernel) (Nat.le_of_ble_eq_true rfl) (tX7_finding_0 g2 ⟨rfl, rfl⟩)
/-- a tape's cell at t, its items at i, its words at b -/
abbrev cT (i b : Nat) (fm ln : Int32) : ce := (5, .inl [.ref 3, .ref (i + 2), .int fm, .int ln, .ref (b + 2)])
section TP
variable {G : gx} {h : ah} {t i b d : Nat} {fm ln : Int32}
theorem C_isLost (gt : h (t + 2) = cT i b fm ln) : Ct G mX5_isLost d 0 0 [.ref (t + 2)] h (Rv (.int (if fm = -1 then 1 else 0)) h) :=
  Ct_of (by decide +kernel) (Nat.le_of_ble_eq_true rfl) (tX5_isLost_0 gt (fun e => ⟨by rw [if_neg e], rfl⟩) (fun e => ⟨by rw [if_pos e], rfl⟩))
theorem C_drop (gt : h (t + 2) = cT i b fm ln) : Ct G mX5_drop d 0 0 [.ref (t + 2)] h (Rv (.int ln) (va_up h (t + 2) (cT i b (-1) ln))) :=
  Ct_of (by decide +kernel) (Nat.le_of_ble_eq_true rfl) (tX5_drop_0 gt ⟨rfl, rfl⟩)
theorem C_hasItems (gt : h (t + 2) = cT i b fm ln) (x z : Int32) : Ct G mX5_hasItems d 0 0 [.ref (t + 2), .int x, .int z] h (Rv (.int (if x < 0 ∨ z < 0 ∨ ln - z < x then 0 else 1)) h) :=
  Ct_of (by decide +kernel) (Nat.le_of_ble_eq_true rfl) (tX5_hasItems_0 gt (fun e => ⟨by rw [if_pos (Or.inl e)], rfl⟩) (fun _ e => ⟨by rw [if_pos (Or.inr (Or.inl e))], rfl⟩) (fun _ _ e => ⟨by rw [if_pos (Or.inr (Or.inr e))], rfl⟩) (fun e1 e2 e3 => ⟨by rw [if_neg (fun z => z.elim e1 (fun z => z.elim e2 e3))], rfl⟩))
/-- what a form keeps of an int -/
def ft (fm v : Int32) : Int32 := if fm = 0 then v.toInt8.toInt32 else if fm = 1 then (v.toUInt32 % 65536).toInt32 else v.toInt16.toInt32
theorem C_fitted (gt : h (t + 2) = cT i b fm ln) (v : Int32) : Ct G mX5_fitted d 0 0 [.ref (t + 2), .int v] h (Rv (.int (ft fm v)) h) := by
  refine Ct_of (by decide +kernel) (Nat.le_of_ble_eq_true rfl) (tX5_fitted_0 gt ?_)
  by_cases h0 : fm = 0
  · subst h0
    exact V_look (off := 28) (t := 32) dX5_fitted_4 (by decide +kernel) (by decide +kernel) (by decide) (tX5_fitted_32 ⟨by rw [ft, if_pos rfl], rfl⟩)
  · by_cases h1 : fm = 1
    · subst h1
      exact V_look (off := 31) (t := 35) dX5_fitted_4 (by decide +kernel) (by decide +kernel) (by decide) (tX5_fitted_35 ⟨by rw [ft, if_neg h0, if_pos rfl], rfl⟩)
    · refine V_look (off := 34) (t := 38) dX5_fitted_4 (by decide +kernel) ?_ (by decide) (tX5_fitted_38 ⟨by rw [ft, if_neg h0, if_neg h1], rfl⟩)
      show Op.lookupswitch.offset [(0, 28), (1, 31)] 34 fm.toInt = 34
      rw [lv_osw (k := 0) h0 (by decide), lv_osw (k := 1) h1 (by decide)]
      rfl
/-- what is wrong with item x, treated as of a form z: 0 nothing -/
def fo (fm ln z x : Int32) : Int32 := if fm = -1 then 1 else if fm ≠ z then 3 else if x < 0 ∨ ln - 1 < x then 2 else 0
theorem C_fault (gt : h (t + 2) = cT i b fm ln) (z x : Int32) : Ct G mX7_faultOfItem 1 0 0 [.ref (t + 2), .int z, .int x] h (Rv (.int (fo fm ln z x)) h) := by
  refine Ct_of (by decide +kernel) (Nat.le_of_ble_eq_true rfl) (tX7_faultOfItem_0 ?_)
  refine cX7_faultOfItem_1 (C_isLost gt (d := 0)) gt ⟨by decide, by decide⟩ (by decide) ⟨Nat.le_refl _, Nat.le_refl _⟩ (fun r h2 e => ?_)
  obtain ⟨rfl, rfl⟩ := e
  have z10 : ((if fm = -1 then (1 : Int32) else 0) = 0) ↔ ¬ fm = -1 := by
    by_cases hc : fm = -1
    · rw [if_pos hc]; exact ⟨fun e => absurd e (by decide), fun e => absurd hc e⟩
    · rw [if_neg hc]; exact ⟨fun _ => hc, fun _ => rfl⟩
  refine tX7_faultOfItem_4 gt (fun e1 e2 => ?_) (fun e1 e2 => ⟨by rw [fo, if_neg (z10.mp e1), if_pos e2], rfl⟩) (fun e1 => ⟨?_, rfl⟩)
  · refine cX7_faultOfItem_22 (C_hasItems gt x 1 (d := 0)) gt ⟨by decide, by decide⟩ (by decide) ⟨Nat.le_refl _, Nat.le_refl _⟩ (fun r h3 e => ?_)
    obtain ⟨rfl, rfl⟩ := e
    have hb : ∀ c : Prop, ((x < 0 ∨ (1 : Int32) < 0 ∨ ln - 1 < x) ↔ (x < 0 ∨ ln - 1 < x)) := fun _ => ⟨fun q => q.elim Or.inl (fun q => q.elim (fun q => absurd q (by decide)) Or.inr), fun q => q.elim Or.inl (fun q => Or.inr (Or.inr q))⟩
    refine tX7_faultOfItem_25 (fun e => ⟨?_, rfl⟩) (fun e => ⟨?_, rfl⟩)
    · rw [fo, if_neg (z10.mp e1), if_neg (fun q => q e2), if_pos ((hb True).mp ((z01 _).mp e))]
    · rw [fo, if_neg (z10.mp e1), if_neg (fun q => q e2), if_neg (fun q => e ((z01 _).mpr ((hb True).mpr q)))]
  · have : fm = -1 := by
      by_cases hc : fm = -1
      · exact hc
      · exact absurd (z10.mpr hc) e1
    rw [fo, if_pos this]
end TP
theorem C_range {G : gx} {h : ah} {a b c d : Nat} (h1 : a ≤ b) (h2 : b ≤ c) (h3 : c < 2 ^ 31) : Ct G mJ7_rangeCheck_23922 d 0 0 [.int (nI c), .int (nI a), .int (nI b)] h (fun r h2 => r = none ∧ h2 = h) := by
  refine Ct_of (by decide +kernel) (Nat.le_of_ble_eq_true rfl) (tJ7_rangeCheck_23922_0 (fun _ _ _ => ⟨rfl, rfl⟩) (fun _ _ e => absurd (nI_le h2 h3) e) (fun _ e => absurd (nI_pos' (by omega)) e) (fun e => absurd (nI_le h1 (by omega)) e))
/-- a row filled from a up to b -/
def fl (f : Nat → Int32) (a b : Nat) (v : Int32) : Nat → Int32 := fun j => if a ≤ j ∧ j < b then v else f j
theorem fl_0 (f : Nat → Int32) (a : Nat) (v : Int32) : fl f a a v = f := by
  funext j
  unfold fl
  rw [if_neg (by omega)]
theorem fl_s (f : Nat → Int32) {a b : Nat} (v : Int32) (h : a ≤ b) : upd (fl f a b v) b v = fl f a (b + 1) v := by
  funext j
  by_cases hj : j = b
  · subst hj
    rw [pk_us, fl, if_pos ⟨h, by omega⟩]
  · rw [pk_un hj, fl, fl]
    by_cases hc : a ≤ j ∧ j < b
    · rw [if_pos hc, if_pos ⟨hc.1, by omega⟩]
    · rw [if_neg hc, if_neg (by omega)]
theorem C_fillI {G : gx} {h : ah} {p n a b : Nat} {f : Nat → Int32} (v : Int32) (gp : h (p + 2) = aI n f) (h1 : a ≤ b) (h2 : b ≤ n) (h3 : n < 2 ^ 31) : Ct G mJ7_fill_fda19 1 0 0 [.ref (p + 2), .int (nI a), .int (nI b), .int v] h (fun r h2 => r = none ∧ h2 = va_up h (p + 2) (aI n (fl f a b v))) := by
  have key : ∀ m j, j + m = b → a ≤ j → V G mJ7_fill_fda19 (b0 1) 10 [some (.ref (p + 2)), some (.int (nI a)), some (.int (nI b)), some (.int v), some (.int (nI j))] [] (va_up h (p + 2) (aI n (fl f a j v))) (fun r h2 => r = none ∧ h2 = va_up h (p + 2) (aI n (fl f a b v))) := by
    intro m
    induction m with
    | zero =>
      intro j hj ha
      refine tJ7_fill_fda19_10 (up_s _ _ _) (fun _ => ⟨rfl, by rw [show j = b by omega]⟩) (fun e => absurd (nI_le (by omega) (by omega)) e) (fun e => absurd (nI_le (by omega) (by omega)) e)
    | succ m ih =>
      intro j hj ha
      refine tJ7_fill_fda19_10 (up_s _ _ _) (fun e => absurd e (nI_ge (by omega) (by omega))) (fun _ => vp_in_nI (by omega) (by omega)) (fun _ => ?_)
      rw [nI_clamp (by omega), fl_s f v ha, nI_1, bx_uu]
      exact ih (j + 1) (by omega) (by omega)
  refine Ct_of (by decide +kernel) (Nat.le_of_ble_eq_true rfl) (tJ7_fill_fda19_0 gp ?_)
  refine cJ7_fill_fda19_4 (C_range (d := 0) h1 h2 h3) ⟨by decide, by decide⟩ (by decide) ⟨Nat.le_refl _, Nat.le_refl _⟩ (fun r h2 e => ?_)
  obtain ⟨rfl, rfl⟩ := e
  refine tJ7_fill_fda19_7 ?_
  have hh : va_up h2 (p + 2) (aI n (fl f a a v)) = h2 := by
    funext j
    by_cases hj : j = p + 2
    · subst hj; rw [up_s, fl_0, gp]
    · rw [up_n _ _ hj]
  have := key (b - a) a (by omega) (Nat.le_refl _)
  rw [hh] at this
  exact this
theorem C_begin {G : gx} {h : ah} {t i b L : Nat} {fm ln fm2 : Int32} {f : Nat → Int32} (gt : h (t + 2) = cT i b fm ln) (gi : h (i + 2) = aI 200 f) (hti : i ≠ t) (hL : L ≤ 200) : Ct G mX5_begin 2 0 0 [.ref (t + 2), .int fm2, .int (nI L)] h (fun r h2 => r = none ∧ h2 = va_up (va_up h (t + 2) (cT i b fm2 (nI L))) (i + 2) (aI 200 (fl f 0 L 0))) := by
  refine Ct_of (by decide +kernel) (Nat.le_of_ble_eq_true rfl) (tX5_begin_0 gt ?_)
  rw [bx_uu]
  refine cX5_begin_17 (C_fillI (p := i) (a := 0) (b := L) (n := 200) 0 ((up_n _ _ (by omega)).trans gi) (Nat.zero_le _) hL (by decide)) ⟨by decide, by decide⟩ (by decide) ⟨Nat.le_refl _, Nat.le_refl _⟩ (fun r h2 e => ?_)
  obtain ⟨rfl, rfl⟩ := e
  exact tX5_begin_20 ⟨rfl, rfl⟩
