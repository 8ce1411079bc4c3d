/-! Register.leads, leadOf; go -/
/-- what the register's rows say of where words lead: T -/
def Lst (k n s : Nat) (F T : Nat → Nat) (s1 : Int32) (l0 : Nat → Int32) : Prop := (s1 = 0 ∧ ∀ w, w < k ^ n → T w = ld k n F s w) ∨ (s1 = 1 ∧ ∀ w, w < k ^ n → l0 w = nI (T w))
section LD2
variable {G : gx} {k n s : Nat} {F T : Nat → Nat} {e s1 s2 c s3 : Int32} {ff pw l0 : Nat → Int32}
theorem C_leads {h : ah} (ok : okW k n) (hF : okF k F) (hs : s < k) (g3 : h 3 = cW k n) (g4 : h 4 = aI 15 pw) (hp : isP k n pw) (g9 : h 9 = cR (nI s) e s1 s2 c s3) (g10 : h 10 = aI 14 ff) (hff : isF F ff) (g13 : h 13 = aI 20000 l0) (hL : Lst k n s F T s1 l0) : Ct G mX2_leads 1 0 0 [.ref 9] h (fun r h2 => r = some (.ref 13) ∧ h2 9 = cR (nI s) e 1 s2 c s3 ∧ (∃ l2, h2 13 = aI 20000 l2 ∧ ∀ w, w < k ^ n → l2 w = nI (T w)) ∧ Fr [9, 13] h h2) := by
  have hl := ok.le (Nat.le_refl n)
  have hk := ok.pos
  have hpn := ok.pp (n - 1)
  have hln := ok.le (i := n - 1) (by omega)
  refine Ct_of (by decide +kernel) (Nat.le_of_ble_eq_true rfl) (tX2_leads_0 g9 (fun q => ?_) (fun q => ?_))
  · rcases hL with ⟨z, -⟩ | ⟨z, hl0⟩
    · exact absurd z q
    · subst z
      exact ⟨rfl, g9, ⟨l0, g13, hl0⟩, Fr.rf⟩
  · have hT : ∀ w, w < k ^ n → T w = ld k n F s w := by
      rcases hL with ⟨-, z⟩ | ⟨z, -⟩
      · exact z
      · rw [z] at q; exact absurd q (by decide)
    refine cX2_leads_8 (k := 7) (C_fillComing ok hF hs g3 g4 hp g9 g10 hff g13 (d := 0)) g9 ⟨by decide, by decide⟩ (by decide) ⟨Nat.le_refl _, Nat.le_refl _⟩ (fun r h1 e1 => ?_)
    obtain ⟨rfl, ⟨l1, a13, hl1⟩, hfr⟩ := e1
    refine tX2_leads_11 ?_
    have key : ∀ m w (h2 : ah) (l2 : Nat → Int32), w + m = k ^ n → h2 13 = aI 20000 l2 → (∀ u, u < w → l2 u = nI (T u)) → (∀ u, w ≤ u → u < k ^ n → l2 u = nI (cg k F s n n u)) → Fr [13] h h2 → V G mX2_leads (b0 1) 13 [some (.ref 9), some (.int (nI w))] [] h2 (fun r h2 => r = some (.ref 13) ∧ h2 9 = cR (nI s) e 1 s2 c s3 ∧ (∃ l2, h2 13 = aI 20000 l2 ∧ ∀ w, w < k ^ n → l2 w = nI (T w)) ∧ Fr [9, 13] h h2) := by
      intro m
      induction m with
      | zero =>
        intro w h2 l2 hw b13 q1 q2 hfr2
        refine tX2_leads_13 ((hfr2 9 (by decide)).trans g9) ((hfr2 3 (by decide)).trans g3) b13 (fun _ => ?_) (fun z => absurd (nI_le (by omega) (by omega)) z) (fun z => absurd (nI_le (by omega) (by omega)) z) (fun z => absurd (nI_le (by omega) (by omega)) z) (fun z => absurd (nI_le (by omega) (by omega)) z)
        exact ⟨rfl, rfl, ⟨l2, b13, fun u hu => q1 u (by omega)⟩, (Fr.mono hfr2 (by decide)).up (by decide)⟩
      | succ m ih =>
        intro w h2 l2 hw b13 q1 q2 hfr2
        refine tX2_leads_13 ((hfr2 9 (by decide)).trans g9) ((hfr2 3 (by decide)).trans g3) b13 (fun z => absurd z (nI_ge (by omega) (by omega))) (fun _ => vp_in_nI (by omega) (by decide)) (fun _ => nI_n0 hpn hln) (fun _ => vp_in_nI (by omega) (by decide)) (fun _ => ?_)
        rw [nI_clamp (by omega), pk_rem (by omega) hpn (by omega), pk_mul, q2 w (Nat.le_refl _) (by omega), nI_add, nI_1]
        have hv : cg k F s n n w + w % k ^ (n - 1) * k = T w := by
          rw [hT w (by omega), ld, cg_vs hk hs (by omega), Nat.add_comm]
        rw [hv]
        refine ih (w + 1) _ (upd l2 w (nI (T w))) (by omega) rfl (fun u hu => ?_) (fun u h1 h2 => ?_) (hfr2.up (by decide))
        · by_cases huw : u = w
          · subst huw; exact pk_us
          · rw [pk_un huw]; exact q1 u (by omega)
        · rw [pk_un (by omega)]
          exact q2 u (by omega) h2
    exact key (k ^ n) 0 h1 l1 (by omega) a13 (fun u hu => absurd hu (Nat.not_lt_zero u)) (fun u _ hu => hl1 u hu) hfr
theorem C_leadOf {h : ah} {w : Nat} (ok : okW k n) (hF : okF k F) (hs : s < k) (g3 : h 3 = cW k n) (g4 : h 4 = aI 15 pw) (hp : isP k n pw) (g9 : h 9 = cR (nI s) e s1 s2 c s3) (g10 : h 10 = aI 14 ff) (hff : isF F ff) (g13 : h 13 = aI 20000 l0) (hL : Lst k n s F T s1 l0) (hw : w < k ^ n) : Ct G mX2_leadOf 2 0 0 [.ref 9, .int (nI w)] h (fun r h2 => r = some (.int (nI (T w))) ∧ h2 9 = cR (nI s) e 1 s2 c s3 ∧ (∃ l2, h2 13 = aI 20000 l2 ∧ ∀ w, w < k ^ n → l2 w = nI (T w)) ∧ Fr [9, 13] h h2) := by
  have hl := ok.le (Nat.le_refl n)
  refine Ct_of (by decide +kernel) (Nat.le_of_ble_eq_true rfl) (tX2_leadOf_0 ?_)
  refine cX2_leadOf_1 (k := 7) (C_leads ok hF hs g3 g4 hp g9 g10 hff g13 hL) g9 ⟨by decide, by decide⟩ (by decide) ⟨Nat.le_refl _, Nat.le_refl _⟩ (fun r h1 e1 => ?_)
  obtain ⟨rfl, b9, ⟨l2, b13, hl2⟩, hfr⟩ := e1
  refine tX2_leadOf_4 b13 (vp_in_nI (by omega) (by decide)) ⟨?_, b9, ⟨l2, b13, hl2⟩, hfr⟩
  rw [nI_clamp (by omega), hl2 w hw]
end LD2
