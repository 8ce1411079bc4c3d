/-! go, factor, sum: both sides -/
section RG
variable {G : gx} {k n s : Nat} {F T : Nat → Nat} {f l e s1 s2 c s3 mx mc mw ml mf mp mg : Int32} {ff pw l0 tt : Nat → Int32}
theorem X_go_no {h : ah} (g2 : h 2 = cX f l) (g3 : h 3 = cW k n) {x : Int32} (hx : x < 0 ∨ nI (k ^ n) ≤ x) : Ct G mX7_go 3 0 0 [.ref 2, .int x] h (Rv (.int (-2)) h) := by
  refine Ct_of (by decide +kernel) (Nat.le_of_ble_eq_true rfl) (tX7_go_0 g2 ?_)
  refine cX7_go_5 (k := 1) (C_has g3 x (d := 0)) g3 ⟨by decide, by decide⟩ (by decide) ⟨Nat.le_refl _, Nat.le_refl _⟩ (fun r h1 e => ?_)
  obtain ⟨rfl, rfl⟩ := e
  exact tX7_go_8 g2 (fun _ => ⟨rfl, rfl⟩) (fun e => absurd ((z01 _).mpr hx) e)
theorem X_go {h : ah} {w : Nat} (ok : okW k n) (hF : okF k F) (hs : s < k) (g2 : h 2 = cX f l) (g3 : h 3 = cW k n) (g4 : h 4 = aI 15 pw) (hp : isP k n pw) (g9 : h 9 = cR (nI s) e s1 s2 c s3) (g10 : h 10 = aI 14 ff) (hff : isF F ff) (g13 : h 13 = aI 20000 l0) (hL : Lst k n s F T s1 l0) (hw : w < k ^ n) : Ct G mX7_go 3 0 0 [.ref 2, .int (nI w)] h (fun r h2 => r = some (.int (nI (T w))) ∧ h2 9 = cR (nI s) e 1 s2 c s3 ∧ (∃ l2, h2 13 = aI 20000 l2 ∧ ∀ w, w < k ^ n → l2 w = nI (T w)) ∧ Fr [9, 13] h h2) := by
  refine Ct_of (by decide +kernel) (Nat.le_of_ble_eq_true rfl) (tX7_go_0 g2 ?_)
  refine cX7_go_5 (k := 1) (C_has g3 _ (d := 0)) g3 ⟨by decide, by decide⟩ (by decide) ⟨Nat.le_refl _, Nat.le_refl _⟩ (fun r h1 e => ?_)
  obtain ⟨rfl, rfl⟩ := e
  refine tX7_go_8 g2 (fun e => absurd ((z01 _).mp e) (wd_no ok hw)) (fun _ => ?_)
  refine cX7_go_16 (k := 7) (C_leadOf ok hF hs g3 g4 hp g9 g10 hff g13 hL hw) g9 ⟨by decide, by decide⟩ (by decide) ⟨Nat.le_refl _, Nat.le_refl _⟩ (fun r h2 e => ?_)
  obtain ⟨rfl, b9, b13, hfr⟩ := e
  exact tX7_go_19 ⟨rfl, b9, b13, hfr⟩
theorem M_go {h : ah} {ms : Int32} (ok : okW k n) (g42 : h 42 = cM (nI k) (nI n) (nI (k ^ n)) ms mx mc mw ml mf mp mg) (g47 : h 47 = aI 20000 tt) (htt : ∀ w, w < k ^ n → tt w = nI (T w)) (x : Int32) : Ct G mX8_go 2 0 0 [.ref 42, .int x] h (Rv (.int (aw k n (fun w => nI (T w)) x)) h) := by
  have hl := ok.le (Nat.le_refl n)
  refine Ct_of (by decide +kernel) (Nat.le_of_ble_eq_true rfl) (tX8_go_0 ?_)
  refine cX8_go_2 (k := 40) (C_isWord ok g42 x) g42 ⟨by decide, by decide⟩ (by decide) ⟨Nat.le_refl _, Nat.le_refl _⟩ (fun r h2 e => ?_)
  obtain ⟨rfl, rfl⟩ := e
  refine tX8_go_5 g42 g47 (fun e => ⟨by rw [aw_no ((z01 _).mp e)], rfl⟩) (fun e => ?_) (fun e => ?_)
  · obtain ⟨w, hw, rfl⟩ := wd_pick ok (fun z => e ((z01 _).mpr z))
    exact vp_in_nI (by omega) (by omega)
  · obtain ⟨w, hw, rfl⟩ := wd_pick ok (fun z => e ((z01 _).mpr z))
    exact ⟨by rw [aw_w ok _ hw, nI_clamp (by omega), htt w hw], rfl⟩
theorem C_changeFactor {h : ah} {a : Int32} {i : Nat} (hi : i < 14) (v : Int32) (g9 : h 9 = cR a e s1 s2 c s3) (g10 : h 10 = aI 14 ff) : Ct G mX2_changeFactor 1 0 0 [.ref 9, .int (nI i), .int v] h (Rv (.int (ff i)) (va_up (va_up h 10 (aI 14 (upd ff i v))) 9 (cR a 0 0 0 c 0))) := by
  refine Ct_of (by decide +kernel) (Nat.le_of_ble_eq_true rfl) (tX2_changeFactor_0 g9 g10 (vp_in_nI hi (by decide)) (vp_in_nI hi (by decide)) ?_)
  rw [nI_clamp (by omega)]
  refine cX2_changeFactor_15 (k := 7) (d2 := 0) (mc2 := 0) (ms2 := 0) (C_forget (h := va_up h 10 (aI 14 (upd ff i v))) g9 (d := 0)) g9 ⟨by decide, by decide⟩ (by decide) ⟨Nat.le_refl _, Nat.le_refl _⟩ (fun r h2 e => ?_)
  obtain ⟨rfl, rfl⟩ := e
  exact tX2_changeFactor_18 ⟨rfl, rfl⟩
theorem C_changeSum {h : ah} {a : Int32} (v : Int32) (g9 : h 9 = cR a e s1 s2 c s3) : Ct G mX2_changeSum 1 0 0 [.ref 9, .int v] h (Rv (.int a) (va_up h 9 (cR v 0 0 0 c 0))) := by
  refine Ct_of (by decide +kernel) (Nat.le_of_ble_eq_true rfl) (tX2_changeSum_0 g9 ?_)
  refine cX2_changeSum_11 (k := 7) (d2 := 0) (mc2 := 0) (ms2 := 0) (C_forget (h := va_up h 9 (cR v e s1 s2 c s3)) rfl (d := 0)) rfl ⟨by decide, by decide⟩ (by decide) ⟨Nat.le_refl _, Nat.le_refl _⟩ (fun r h2 e => ?_)
  obtain ⟨rfl, rfl⟩ := e
  exact tX2_changeSum_14 ⟨rfl, by rw [bx_uu]⟩
theorem X_factor_no {h : ah} (g2 : h 2 = cX f l) (g3 : h 3 = cW k n) {x v : Int32} (hb : (x < 0 ∨ nI n ≤ x) ∨ (v < 0 ∨ nI k ≤ v)) : Ct G mX7_factor 2 0 0 [.ref 2, .int x, .int v] h (Rv (.int (-2)) h) := by
  refine Ct_of (by decide +kernel) (Nat.le_of_ble_eq_true rfl) (tX7_factor_0 g2 g3 (fun _ => ⟨rfl, rfl⟩) (fun _ _ => ⟨rfl, rfl⟩) (fun e1 e2 => ?_))
  refine cX7_factor_20 (k := 1) (C_isLetter g3 v (d := 0)) g3 ⟨by decide, by decide⟩ (by decide) ⟨Nat.le_refl _, Nat.le_refl _⟩ (fun r h1 e => ?_)
  obtain ⟨rfl, rfl⟩ := e
  refine tX7_factor_23 g2 (fun e => ?_) (fun _ => ⟨rfl, rfl⟩)
  rcases hb with q | q
  · exact (q.elim e1 e2).elim
  · exact absurd ((z01 _).mpr q) e
theorem X_factor {h : ah} {a : Int32} {i : Nat} {v : Int32} (ok : okW k n) (g2 : h 2 = cX f l) (g3 : h 3 = cW k n) (g9 : h 9 = cR a e s1 s2 c s3) (g10 : h 10 = aI 14 ff) (hi : i < n) (hv : ¬ (v < 0 ∨ nI k ≤ v)) : Ct G mX7_factor 2 0 0 [.ref 2, .int (nI i), .int v] h (Rv (.int (ff i)) (va_up (va_up h 10 (aI 14 (upd ff i v))) 9 (cR a 0 0 0 c 0))) := by
  have hn2 := ok.2.2.2.1
  refine Ct_of (by decide +kernel) (Nat.le_of_ble_eq_true rfl) (tX7_factor_0 g2 g3 (fun e => absurd e (nI_pos (by omega))) (fun _ e => absurd e (nI_ge hi (by omega))) (fun e1 e2 => ?_))
  refine cX7_factor_20 (k := 1) (C_isLetter g3 v (d := 0)) g3 ⟨by decide, by decide⟩ (by decide) ⟨Nat.le_refl _, Nat.le_refl _⟩ (fun r h1 e => ?_)
  obtain ⟨rfl, rfl⟩ := e
  refine tX7_factor_23 g2 (fun _ => ?_) (fun e => absurd ((z01 _).mp e) hv)
  refine cX7_factor_35 (k := 7) (C_changeFactor (by omega) v g9 g10) g9 ⟨by decide, by decide⟩ (by decide) ⟨Nat.le_refl _, Nat.le_refl _⟩ (fun r h2 e => ?_)
  obtain ⟨rfl, rfl⟩ := e
  exact tX7_factor_38 ⟨rfl, rfl⟩
theorem X_sum {h : ah} {a : Int32} (v : Int32) (g2 : h 2 = cX f l) (g3 : h 3 = cW k n) (g9 : h 9 = cR a e s1 s2 c s3) : Ct G mX7_sum 2 0 0 [.ref 2, .int v] h (fun r h2 => if v < 0 ∨ nI k ≤ v then r = some (.int (-2)) ∧ h2 = h else r = some (.int a) ∧ h2 = va_up h 9 (cR v 0 0 0 c 0)) := by
  refine Ct_of (by decide +kernel) (Nat.le_of_ble_eq_true rfl) (tX7_sum_0 g2 ?_)
  refine cX7_sum_5 (k := 1) (C_isLetter g3 v (d := 0)) g3 ⟨by decide, by decide⟩ (by decide) ⟨Nat.le_refl _, Nat.le_refl _⟩ (fun r h1 e => ?_)
  obtain ⟨rfl, rfl⟩ := e
  refine tX7_sum_8 g2 (fun e => by rw [if_pos ((z01 _).mp e)]; exact ⟨rfl, rfl⟩) (fun e => ?_)
  refine cX7_sum_16 (k := 7) (C_changeSum v g9) g9 ⟨by decide, by decide⟩ (by decide) ⟨Nat.le_refl _, Nat.le_refl _⟩ (fun r h2 e2 => ?_)
  obtain ⟨rfl, rfl⟩ := e2
  refine tX7_sum_19 ?_
  rw [if_neg (fun q => e ((z01 _).mpr q))]
  exact ⟨rfl, rfl⟩
end RG
