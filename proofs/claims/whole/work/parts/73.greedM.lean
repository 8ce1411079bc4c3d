/-! the greedy round: the reference -/
section GM
variable {G : gx} {h : ah} {k n : Nat} {ms mx mc mw ml mf mp mg : Int32}
theorem M_greedyRound {rl sn : Nat → Int32} (ok : okW k n) (g42 : h 42 = cM (nI k) (nI n) (nI (k ^ n)) ms mx mc mw ml mf mp mg) (g50 : h 50 = aZ 20000 sn) (g53 : h 53 = aI 20000 rl) {d : Nat} : Ct G mX8_greedyRound d 0 0 [.ref 42] h (fun r h2 => r = none ∧ (∃ s2, h2 50 = aZ 20000 s2) ∧ (∃ r2, h2 53 = aI 20000 r2 ∧ ∀ j, j < k ^ n → r2 j = nI (gr k n j)) ∧ Fr [50, 53] h h2) := by
  have hN := ok.le (Nat.le_refl n)
  have hk := ok.1
  have hk5 := ok.2.1
  have hn := ok.2.2.1
  have hn2 := ok.2.2.2.1
  have h0 := ok.pp n
  have hp := ok.pp (n - 1)
  have hhi := ok.le (i := n - 1) (by omega)
  have hNk : k ^ n = k ^ (n - 1) * k := pow_n1 hn
  have hnN := n_lt_pow hk n
  generalize hQ : (fun (r : Option Value) (h2 : ah) => r = none ∧ (∃ s2, h2 50 = aZ 20000 s2) ∧ (∃ r2, h2 53 = aI 20000 r2 ∧ ∀ j, j < k ^ n → r2 j = nI (gr k n j)) ∧ Fr [50, 53] h h2) = Q
  have main : ∀ m i (hh : ah) (z r2 : Nat → Int32), n + i + m = k ^ n → hh 50 = aZ 20000 z → (∀ w, w < k ^ n → (z w = 0 ↔ gS k (k ^ (n - 1)) i w = false)) → hh 53 = aI 20000 r2 → (∀ j, j < n + i → r2 j = nI (gr k n j)) → Fr [50, 53] h hh → V G mX8_greedyRound (b0 d) 78 [some (.ref 42), some (.int (nI (k ^ (n - 1)))), some (.int (nI (gW k (k ^ (n - 1)) i))), some (.int (nI (n + i)))] [] hh Q := by
    intro m
    induction m with
    | zero =>
      intro i hh z r2 hi c50 cz c53 cr cf
      refine tX8_greedyRound_78 ((cf 42 (by decide)).trans g42) (fun _ => ?_) (fun e => absurd (nI_le (by omega) (by omega)) e)
      rw [← hQ]
      exact ⟨rfl, ⟨_, c50⟩, ⟨r2, c53, fun j hj => cr j (by omega)⟩, cf⟩
    | succ m ih =>
      intro i hh z r2 hi c50 cz c53 cr cf
      have c42 := (cf 42 (by decide)).trans g42
      have hw := (gInv_all hk hn i (by omega)).1
      have hw1 := (gInv_all hk hn (i + 1) (by omega)).1
      have hnew := g_new hk hn (gInv_all hk hn i (by omega)) (by omega)
      have hmd := Nat.mod_lt (gW k (k ^ (n - 1)) i) hp
      have hbk : gW k (k ^ (n - 1)) i % k ^ (n - 1) * k + k ≤ k ^ n := by
        have : (gW k (k ^ (n - 1)) i % k ^ (n - 1) + 1) * k ≤ k ^ (n - 1) * k := Nat.mul_le_mul_right k hmd
        rw [Nat.add_mul, Nat.one_mul] at this
        omega
      refine tX8_greedyRound_78 c42 (fun e => absurd e (nI_ge (by omega) (by omega))) (fun _ => ?_)
      generalize hb : gW k (k ^ (n - 1)) i % k ^ (n - 1) * k = b at hbk
      generalize hS : gS k (k ^ (n - 1)) i = S at cz hnew
      have hgs := gW_s k (k ^ (n - 1)) i
      rw [hS, hb] at hgs
      have ew : ∀ l, ((nI (gW k (k ^ (n - 1)) i) - nI (gW k (k ^ (n - 1)) i) / nI (k ^ (n - 1)) * nI (k ^ (n - 1))) * nI k) + nI l = nI (b + l) := fun l => by
        rw [pk_rem (by omega) hp (by omega), pk_mul, hb, nI_add]
      have inn : ∀ l, l ≤ k - 1 → pkl S b l = pkl S b (k - 1) → V G mX8_greedyRound (b0 d) 94 [some (.ref 42), some (.int (nI (k ^ (n - 1)))), some (.int (nI (gW k (k ^ (n - 1)) i))), some (.int (nI (n + i))), some (.int (nI l))] [] hh Q := by
        have found : ∀ l, l ≤ k - 1 → b + l = pkl S b (k - 1) → V G mX8_greedyRound (b0 d) 78 [some (.ref 42), some (.int (nI (k ^ (n - 1)))), some (.int (nI (b + l))), some (.int (nI (n + i) + 1))] [] (va_up (va_up hh 50 (aZ 20000 (upd z (b + l) (vp_nar .boolean 1)))) 53 (aI 20000 (upd r2 (n + i) (nI l)))) Q := by
          intro l hl hf
          rw [← hgs] at hf
          rw [nI_1, vnb1, hf, show n + i + 1 = n + (i + 1) by omega]
          refine ih (i + 1) _ _ _ (by omega) ((up_n _ _ (by decide)).trans (up_s _ _ _)) (fun w hw2 => ?_) (up_s _ _ _) (fun j hj => ?_) ((cf.up (by decide)).up (by decide))
          · rw [gS_s, hS]
            unfold addS
            by_cases hwx : w = gW k (k ^ (n - 1)) (i + 1)
            · rw [hwx, pk_us, if_pos rfl]
              exact ⟨fun q => absurd q (by decide), fun q => absurd q (by decide)⟩
            · rw [pk_un hwx, if_neg hwx]
              exact cz w hw2
          · by_cases hj2 : j = n + i
            · rw [hj2, pk_us, gr, if_neg (by omega), show n + i - n + 1 = i + 1 by omega, ← hf, ← hb]
              rw [Nat.mul_add_mod_self_right, Nat.mod_eq_of_lt (by omega)]
            · rw [pk_un hj2]; exact cr j (by omega)
        intro l
        induction l with
        | zero =>
          intro hl he
          have hSb : S b = false := by
            rw [hgs, ← he] at hnew
            exact hnew
          have zz : z (((nI (gW k (k ^ (n - 1)) i) - nI (gW k (k ^ (n - 1)) i) / nI (k ^ (n - 1)) * nI (k ^ (n - 1))) * nI k) + nI 0).toNatClampNeg = 0 := by
            rw [ew, nI_clamp (by omega)]
            exact (cz _ (by omega)).mpr hSb
          refine tX8_greedyRound_94 (x4 := nI 0) c42 c50 c53 (fun q => absurd q (nI_pos (by omega))) (fun q => absurd q (nI_pos (by omega))) (fun q => absurd q (nI_pos (by omega))) (fun q => absurd q (nI_pos (by omega))) (fun _ => nI_n0 hp hhi) (fun _ => by rw [ew]; exact vp_in_nI (by omega) (by decide)) (fun _ _ => nI_n0 hp hhi) (fun _ _ => by rw [ew]; exact vp_in_nI (by omega) (by decide)) (fun _ _ => vp_in_nI (by omega) (by decide)) (fun _ _ => ?_) (fun _ q => absurd zz q)
          rw [ew, nI_clamp (by omega), nI_clamp (by omega)]
          exact found 0 (Nat.zero_le _) (by rw [← he]; rfl)
        | succ l ihl =>
          intro hl he
          refine tX8_greedyRound_94 c42 c50 c53 (fun q => absurd q (nI_pos (by omega))) (fun q => absurd q (nI_pos (by omega))) (fun q => absurd q (nI_pos (by omega))) (fun q => absurd q (nI_pos (by omega))) (fun _ => nI_n0 hp hhi) (fun _ => by rw [ew]; exact vp_in_nI (by omega) (by decide)) (fun _ _ => nI_n0 hp hhi) (fun _ _ => by rw [ew]; exact vp_in_nI (by omega) (by decide)) (fun _ _ => vp_in_nI (by omega) (by decide)) (fun _ q => ?_) (fun _ q => ?_)
          · rw [ew, nI_clamp (by omega), cz _ (by omega)] at q
            rw [ew, nI_clamp (by omega), nI_clamp (by omega)]
            exact found (l + 1) hl (by rw [← he, pkl, if_neg (by rw [q]; decide)])
          · rw [ew, nI_clamp (by omega), cz _ (by omega)] at q
            have hs : S (b + (l + 1)) = true := by cases hb2 : S (b + (l + 1)) <;> simp_all
            rw [m1_add, show nI (l + 1) - (1 : Int32) = nI l from nI_pred l]
            refine ihl (by omega) ?_
            rw [← he, pkl, if_pos hs]
      rw [show nI k - (1 : Int32) = nI (k - 1) from pk_sub (a := k) (b := 1) (by omega)]
      exact inn (k - 1) (Nat.le_refl _) rfl
  have zeros : ∀ m i (hh : ah) (z r2 : Nat → Int32), i + m = n → hh 50 = aZ 20000 z → (∀ w, w < k ^ n → (z w = 0 ↔ gS k (k ^ (n - 1)) 0 w = false)) → hh 53 = aI 20000 r2 → (∀ j, j < i → r2 j = 0) → Fr [50, 53] h hh → V G mX8_greedyRound (b0 d) 44 [some (.ref 42), some (.int (nI (k ^ (n - 1)))), some (.int 0), some (.int (nI i))] [] hh Q := by
    intro m
    induction m with
    | zero =>
      intro i hh z r2 hi c50 cz c53 cr cf
      have kle : nI n ≤ nI i := nI_le (by omega) (by omega)
      refine tX8_greedyRound_44 ((cf 42 (by decide)).trans g42) c53 (fun _ => ?_) (fun q => absurd kle q) (fun q => absurd kle q) (fun q => absurd kle q)
      exact main (k ^ n - n) 0 hh z r2 (by omega) c50 cz c53 (fun j hj => by rw [cr j (by omega), gr, if_pos (by omega)]; rfl) cf
    | succ m ih =>
      intro i hh z r2 hi c50 cz c53 cr cf
      refine tX8_greedyRound_44 ((cf 42 (by decide)).trans g42) c53 (fun q => absurd q (nI_ge (by omega) (by omega))) (fun _ q => absurd q (nI_ge (by omega) (by omega))) (fun _ _ => vp_in_nI (by omega) (by decide)) (fun _ _ => ?_)
      rw [nI_1, nI_clamp (by omega)]
      refine ih (i + 1) _ z _ (by omega) ((up_n _ _ (by decide)).trans c50) cz (up_s _ _ _) (fun j hj => ?_) (cf.up (by decide))
      by_cases hj2 : j = i
      · rw [hj2, pk_us]
      · rw [pk_un hj2]; exact cr j (by omega)
  have clear : ∀ m w (hh : ah) (z : Nat → Int32), w + m = k ^ n → hh 50 = aZ 20000 z → (∀ y, y < w → z y = 0) → Fr [50] h hh → V G mX8_greedyRound (b0 d) 2 [some (.ref 42), some (.int (nI w))] [] hh Q := by
    intro m
    induction m with
    | zero =>
      intro w hh z hw c50 cz cf
      have kle : nI (k ^ n) ≤ nI w := nI_le (by omega) (by omega)
      refine tX8_greedyRound_2 ((cf 42 (by decide)).trans g42) c50 (fun _ => nI_n0 ok.pos (by omega)) (fun _ => vp_in_nI (n := 0) (by decide) (by decide)) (fun _ => ?_) (fun q => absurd kle q) (fun q => absurd kle q)
      rw [hi_eq ok, vnb1]
      refine zeros n 0 _ (upd z 0 1) rl (by omega) (up_s _ _ _) (fun y hy => ?_) ((up_n _ _ (by decide)).trans ((cf 53 (by decide)).trans g53)) (fun j hj => absurd hj (Nat.not_lt_zero j)) ((cf.up (by decide)).mono (by decide))
      by_cases hy0 : y = 0
      · rw [hy0, pk_us]
        exact ⟨fun q => absurd q (by decide), fun q => absurd (show gS k (k ^ (n - 1)) 0 0 = true from rfl) (by rw [q]; decide)⟩
      · rw [pk_un hy0]
        exact ⟨fun _ => decide_eq_false hy0, fun _ => cz y (by omega)⟩
    | succ m ih =>
      intro w hh z hw c50 cz cf
      refine tX8_greedyRound_2 ((cf 42 (by decide)).trans g42) c50 (fun q => absurd q (nI_ge (by omega) (by omega))) (fun q => absurd q (nI_ge (by omega) (by omega))) (fun q => absurd q (nI_ge (by omega) (by omega))) (fun _ => vp_in_nI (by omega) (by decide)) (fun _ => ?_)
      rw [nI_1, nI_clamp (by omega), vnb0]
      refine ih (w + 1) _ _ (by omega) (up_s _ _ _) (fun y hy => ?_) (cf.up (by decide))
      by_cases hyw : y = w
      · rw [hyw, pk_us]
      · rw [pk_un hyw]; exact cz y (by omega)
  refine Ct_of (by decide +kernel) (Nat.le_of_ble_eq_true rfl) (tX8_greedyRound_0 ?_)
  exact clear (k ^ n) 0 h sn (by omega) g50 (fun y hy => absurd hy (Nat.not_lt_zero y)) Fr.rf
theorem M_round_greedy {rl pl sn : Nat → Int32} (ok : okW k n) (g42 : h 42 = cM (nI k) (nI n) (nI (k ^ n)) ms mx mc mw ml mf mp mg) (g50 : h 50 = aZ 20000 sn) (g53 : h 53 = aI 20000 rl) (g54 : h 54 = aI 20000 pl) : Ct G mX8_round 3 0 0 [.ref 42, .int 1] h (fun r h2 => r = some (.int (nI (k ^ n))) ∧ h2 42 = cM (nI k) (nI n) (nI (k ^ n)) ms mx mc 1 ml mf mp mg ∧ (∃ s2, h2 50 = aZ 20000 s2) ∧ (∃ r2, h2 53 = aI 20000 r2 ∧ ∀ j, j < k ^ n → r2 j = nI (gr k n j)) ∧ h2 54 = aI 20000 (plw (gW k (k ^ (n - 1))) (k ^ n) 0 pl) ∧ Fr [42, 50, 53, 54] h h2) := by
  have hN := ok.le (Nat.le_refl n)
  refine Ct_of (by decide +kernel) (Nat.le_of_ble_eq_true rfl) (tX8_round_0 ?_)
  refine cX8_round_6 (C_in (d := 0) _ _ _) ⟨by decide, by decide⟩ (Nat.le_of_ble_eq_true rfl) ⟨Nat.le_refl _, Nat.le_refl _⟩ (fun r h2 e => ?_)
  obtain ⟨rfl, e⟩ := e; replace e := e.symm; subst e
  have hnb : ¬ ((1 : Int32).toInt64 < (0 : Int64) ∨ (2 : Int64) < (1 : Int32).toInt64) := by decide
  refine tX8_round_9 (fun _ _ _ z => absurd rfl z) (fun _ _ _ _ => ?_) (fun _ _ z => absurd z (by decide)) (fun _ z => absurd z (by decide)) (fun z => absurd ((z01 _).mp z) hnb)
  refine cX8_round_62 (k := 40) (M_greedyRound ok g42 g50 g53 (d := 0)) g42 ⟨by decide, by decide⟩ (Nat.le_of_ble_eq_true rfl) ⟨Nat.le_refl _, Nat.le_refl _⟩ (fun r h1 e => ?_)
  obtain ⟨rfl, ⟨s2, k50⟩, ⟨r2, k53, kr⟩, kf⟩ := e
  refine tX8_round_65 ((kf 42 (by decide)).trans g42) ?_
  refine M_placesV (rr := gr k n) ok (up_s _ _ _) ((up_n _ _ (by decide)).trans k53) (fun j hj => ⟨kr j hj, gr_lt ok.1 j⟩) ((up_n _ _ (by decide)).trans ((kf 54 (by decide)).trans g54)) ?_
  refine ⟨rfl, (up_n _ _ (by decide)).trans (up_s _ _ _), ⟨s2, k50⟩, ⟨r2, k53, kr⟩, ?_, Fr.up (Fr.up (kf.mono (by decide)) (by decide)) (by decide)⟩
  rw [up_s, plw_cg (W2 := gW k (k ^ (n - 1))) (k ^ n) 0 pl (fun j _ hj => gr_wv ok.1 ok.2.2.1 (by omega))]
end GM
