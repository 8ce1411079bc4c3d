/-! the class's counter: contracts -/
abbrev cK5 : ce := (3, .inl [.ref 3, .ref 6, .ref 7, .ref 8])
def smm (g t : Nat → Nat) (f : Nat) : Nat → Nat
  | 0 => 0
  | q + 1 => smm g t f q + g q * t (f - (q + 1))
def pt (g : Nat → Nat) : Nat → Nat → Nat
  | 0, _ => 1
  | f + 1, j => if j = f + 1 then smm g (pt g f) (f + 1) (f + 1) else pt g f j
def amm (g t : Nat → Nat) (d : Nat) : Nat → Nat
  | 0 => 0
  | q + 1 => amm g t d q + (q + 1) * g q * t (d - (q + 1))
def gk (k : Nat) (x : Nat → Nat) (i : Nat) : Nat := k - 1 - x i
/-- how many words are above the row, however turned: the class's number -/
def abv (k d : Nat) (x : Nat → Nat) : Nat := amm (gk k x) (pt (gk k x) d) d d
theorem smm_cg {g t t2 : Nat → Nat} {f : Nat} : ∀ q, q ≤ f → (∀ j, j < f → t j = t2 j) → smm g t f q = smm g t2 f q
  | 0, _, _ => rfl
  | q + 1, h1, h2 => by
    show smm g t f q + g q * t (f - (q + 1)) = smm g t2 f q + g q * t2 (f - (q + 1))
    rw [smm_cg q (by omega) h2, h2 _ (by omega)]
section CC
variable {G : gx} {h : ah} {k n : Nat}
theorem C_firstFault {d : Nat} {o : Nat → Int32} {x : Nat → Nat} (hk : k ≤ 5) (g5 : h 5 = cK5) (g6 : h 6 = aI 14 o) (hx : ∀ i, x i < k) (ho : ∀ i, i < d → o i = nI (x i)) (hd1 : 1 ≤ d) (hd : d ≤ 14) {dp : Nat} : Ct G mX3_firstFault dp 0 0 [.ref 5, .int (nI d)] h (Rv (.int (nI (ft1 x d))) h) := by
  generalize hR : ft1 x d = R
  have key : ∀ m i p, i + m = d → 1 ≤ p → p ≤ i → fft x d m i p = R → V G mX3_firstFault (b0 dp) 4 [some (.ref 5), some (.int (nI d)), some (.int (nI p)), some (.int (nI i))] [] h (Rv (.int (nI R)) h) := by
    intro m
    induction m with
    | zero =>
      intro i p hi h1 h2 hf
      have kle : nI d ≤ nI i := nI_le (by omega) (by omega)
      refine tX3_firstFault_4 g5 g6 (fun _ => ⟨?_, rfl⟩) (fun z => absurd kle z) (fun z => absurd kle z) (fun z => absurd kle z) (fun z => absurd kle z) (fun z => absurd kle z) (fun z => absurd kle z) (fun z => absurd kle z)
      rw [← hf]
      rfl
    | succ m ih =>
      intro i p hi h1 h2 hf
      have e1 : nI i - nI p = nI (i - p) := pk_sub h2
      have vi : o (nI i).toNatClampNeg = nI (x i) := by rw [nI_clamp (by omega)]; exact ho i (by omega)
      have vp : o (nI i - nI p).toNatClampNeg = nI (x (i - p)) := by rw [e1, nI_clamp (by omega)]; exact ho _ (by omega)
      have b1 := hx i
      have b2 := hx (i - p)
      have in1 : vp_in (nI i) 14 := vp_in_nI (by omega) (by decide)
      have in2 : vp_in (nI i - nI p) 14 := by rw [e1]; exact vp_in_nI (by omega) (by decide)
      unfold fft at hf
      refine tX3_firstFault_4 g5 g6 (fun z => absurd z (nI_ge (by omega) (by omega))) (fun _ => in1) (fun _ => in2) (fun _ _ => in1) (fun _ _ => in2) (fun _ z1 z2 => ?_) (fun _ z1 z2 => ?_) (fun _ z => ⟨?_, rfl⟩)
      · rw [vi, vp, nI_leI (by omega) (by omega)] at z1 z2
        rw [if_neg (by omega), if_neg (by omega)] at hf
        rw [nI_1]
        exact ih (i + 1) p (by omega) h1 (by omega) hf
      · rw [vi, vp, nI_leI (by omega) (by omega)] at z1 z2
        rw [if_neg (by omega), if_pos (by omega)] at hf
        rw [nI_1]
        exact ih (i + 1) (i + 1) (by omega) (by omega) (Nat.le_refl _) hf
      · rw [vi, vp, nI_leI (by omega) (by omega)] at z
        rw [if_pos (by omega)] at hf
        rw [hf]
  refine Ct_of (by decide +kernel) (Nat.le_of_ble_eq_true rfl) (tX3_firstFault_0 ?_)
  exact key (d - 1) 1 1 (by omega) (Nat.le_refl _) (Nat.le_refl _) hR
theorem C_lower {d : Nat} {o : Nat → Int32} {x : Nat → Nat} (ok : okW k n) (g3 : h 3 = cW k n) (g5 : h 5 = cK5) (g6 : h 6 = aI 14 o) (hx : ∀ i, x i < k) (ho : ∀ i, i < d → o i = nI (x i)) (hd1 : 1 ≤ d) (hd : d ≤ 14) : Ct G mX3_lowerToBeginning 2 0 0 [.ref 5, .int (nI d)] h (fun r h2 => r = none ∧ (∃ o2, h2 6 = aI 14 o2 ∧ ∀ i, i < d → o2 i = nI (lwr k d d x i)) ∧ Fr [6] h h2) := by
  have hk := ok.1
  have hk5 := ok.2.1
  generalize hR : lwr k d d x = R
  generalize hQ : (fun (r : Option Value) (h2 : ah) => r = none ∧ (∃ o2, h2 6 = aI 14 o2 ∧ ∀ i, i < d → o2 i = nI (R i)) ∧ Fr [6] h h2) = Q
  have key : ∀ m t (y : Nat → Nat) (hh : ah) (o2 : Nat → Int32), t + m = d → (∀ i, y i < k) → lwr k d m y = R → hh 6 = aI 14 o2 → (∀ i, i < d → o2 i = nI (y i)) → Fr [6] h hh → V G mX3_lowerToBeginning (b0 2) 2 [some (.ref 5), some (.int (nI d)), some (.int (nI t))] [] hh Q := by
    intro m
    induction m with
    | zero =>
      intro t y hh o2 ht hy hl c6 co cf
      refine tX3_lowerToBeginning_2 (fun _ => ?_) (fun z => absurd (nI_le (by omega) (by omega)) z)
      have hl2 : y = R := hl
      rw [← hQ]
      exact ⟨rfl, ⟨o2, c6, by rw [← hl2]; exact co⟩, cf⟩
    | succ m ih =>
      intro t y hh o2 ht hy hl c6 co cf
      have c5 := (cf 5 (by decide)).trans g5
      have c3 := (cf 3 (by decide)).trans g3
      refine tX3_lowerToBeginning_2 (fun z => absurd z (nI_ge (by omega) (by omega))) (fun _ => ?_)
      refine cX3_lowerToBeginning_9 (k := 3) (C_firstFault hk5 c5 c6 hy co hd1 hd (dp := 0)) c5 ⟨by decide, by decide⟩ (Nat.le_of_ble_eq_true rfl) ⟨Nat.le_refl _, Nat.le_refl _⟩ (fun r h3 e => ?_)
      obtain ⟨rfl, e⟩ := e; replace e := e.symm; subst e
      unfold lwr at hl
      rcases fft_ok (d := d) hy (d - 1) 1 1 (by omega) pre_1 with ⟨q1, q2⟩ | ⟨q0, q1, q, q2, q3⟩
      · have q1' : ft1 y d = d := q1
        rw [if_pos q1'] at hl
        refine tX3_lowerToBeginning_12 (fun z => absurd (by rw [q1']) z) (fun _ => ?_)
        rw [← hQ]
        exact ⟨rfl, ⟨o2, c6, by rw [← hl]; exact co⟩, cf⟩
      · have hfd : ft1 y d < d := q1
        have hf1 : 1 ≤ ft1 y d := q0
        rw [if_neg (by omega)] at hl
        have hpos : 0 < y (lnz y (ft1 y d - 1)) := (lnz_ok (x := y) (ft1 y d - 1)).2.2 ⟨ft1 y d - q, by have := q2.1; omega, by have q4 : y (ft1 y d) < y (ft1 y d - q) := q3; omega⟩
        generalize hff : ft1 y d = f at *
        refine tX3_lowerToBeginning_12 (fun _ => ?_) (fun z => absurd ((nI_eq (by omega) (by omega)).mp z) (by omega))
        rw [show nI f - (1 : Int32) = nI (f - 1) from pk_sub hf1]
        have ek : nI k - (1 : Int32) = nI (k - 1) := pk_sub (a := k) (b := 1) (by omega)
        have body : ∀ l, l = lnz y (f - 1) → l < d → V G mX3_lowerToBeginning (2, 0, 0, 0 + 0, 0 + 0) 74 [some (.ref 5), some (.int (nI d)), some (.int (nI t)), some (.int (nI f)), some (.int (nI l))] [.int (nI k - 1), .int (nI d), .int (nI l + 1), .ref 6] (va_up hh 6 (aI 14 (upd o2 l (o2 l - 1)))) Q := by
          intro l hl2 hld
          rw [ek, nI_1]
          refine cX3_lowerToBeginning_74 (C_fillI (p := 4) (a := l + 1) (b := d) (n := 14) (nI (k - 1)) (up_s hh 6 _) (by omega) hd (by decide)) ⟨by decide, by decide⟩ (Nat.le_of_ble_eq_true rfl) ⟨Nat.le_refl _, Nat.le_refl _⟩ (fun r h4 e => ?_)
          obtain ⟨rfl, e⟩ := e; replace e := e.symm; subst e
          refine tX3_lowerToBeginning_77 ?_
          rw [nI_1, bx_uu]
          refine ih (t + 1) (dec k y l) _ _ (by omega) (dec_lt hk hy) (by rw [hl2]; exact hl) (up_s _ _ _) (fun i hi => ?_) (cf.up (by decide))
          rw [← hl2] at hpos
          unfold fl dec
          by_cases h1 : i < l
          · rw [if_neg (by omega), if_pos h1, pk_un (by omega)]; exact co i hi
          · rw [if_neg h1]
            by_cases h2 : i = l
            · rw [if_neg (by omega), if_pos h2, h2, pk_us, co l hld]
              exact pk_sub (a := y l) (b := 1) (by omega)
            · rw [if_pos (by omega), if_neg h2]
        have seek : ∀ j, j ≤ f - 1 → lnz y j = lnz y (f - 1) → V G mX3_lowerToBeginning (2, 0, 0, 0 + 0, 0 + 0) 24 [some (.ref 5), some (.int (nI d)), some (.int (nI t)), some (.int (nI f)), some (.int (nI j))] [] hh Q := by
          intro j
          induction j with
          | zero =>
            intro hj he
            have in0 : vp_in (nI 0) 14 := vp_in_nI (by decide) (by decide)
            have le0 : nI 0 ≤ 0 := by decide
            refine tX3_lowerToBeginning_24 (x4 := nI 0) c5 c6 c3 (fun _ => in0) (fun _ => in0) (fun _ => ?_) (fun z => absurd le0 z) (fun z => absurd le0 z) (fun z => absurd le0 z) (fun z => absurd le0 z) (fun z => absurd le0 z)
            rw [nI_clamp (by omega)]
            exact body 0 he (by omega)
          | succ j ihj =>
            intro hj he
            have inj1 : vp_in (nI (j + 1)) 14 := vp_in_nI (by omega) (by decide)
            have b1 := hy (j + 1)
            have ev : o2 (nI (j + 1)).toNatClampNeg = nI (y (j + 1)) := by rw [nI_clamp (by omega)]; exact co _ (by omega)
            have nle : ¬ nI (j + 1) ≤ 0 := nI_nle (by omega) (by omega)
            refine tX3_lowerToBeginning_24 c5 c6 c3 (fun z => absurd z nle) (fun z => absurd z nle) (fun z => absurd z nle) (fun _ => inj1) (fun _ _ => inj1) (fun _ _ => inj1) (fun _ z => ?_) (fun _ z => ?_)
            · rw [ev] at z
              have z2 : ¬ y (j + 1) = 0 := fun q => z (by rw [q]; rfl)
              rw [nI_clamp (by omega)]
              exact body (j + 1) (by rw [← he, lnz, if_neg z2]) (by omega)
            · rw [ev] at z
              have z2 : y (j + 1) = 0 := (nI_eq (b := 0) (by omega) (by omega)).mp z
              rw [m1_add, show nI (j + 1) - (1 : Int32) = nI j from nI_pred j]
              exact ihj (by omega) (by rw [← he, lnz, if_pos z2])
        exact seek (f - 1) (Nat.le_refl _) rfl
  refine Ct_of (by decide +kernel) (Nat.le_of_ble_eq_true rfl) (tX3_lowerToBeginning_0 ?_)
  exact key d 0 x h o (by omega) hx hR g6 ho Fr.rf
theorem C_greater {d i : Nat} {o : Nat → Int32} {x : Nat → Nat} (ok : okW k n) (g3 : h 3 = cW k n) (g5 : h 5 = cK5) (g6 : h 6 = aI 14 o) (hx : ∀ i, x i < k) (ho : ∀ i, i < d → o i = nI (x i)) (hd : d ≤ 14) (hi : i < d) {dp : Nat} : Ct G mX3_greaterThan dp 0 0 [.ref 5, .int (nI i)] h (Rv (.int (nI (gk k x i))) h) := by
  have hk := ok.1
  have b1 := hx i
  refine Ct_of (by decide +kernel) (Nat.le_of_ble_eq_true rfl) (tX3_greaterThan_0 g5 g3 g6 (vp_in_nI (by omega) (by decide)) ⟨?_, rfl⟩)
  rw [nI_clamp (by omega), ho i hi, show nI k - (1 : Int32) = nI (k - 1) from pk_sub (a := k) (b := 1) (by omega), pk_sub (by omega)]
  rfl
theorem C_above {d : Nat} {o pp : Nat → Int32} {x : Nat → Nat} (ok : okW k n) (g3 : h 3 = cW k n) (g5 : h 5 = cK5) (g6 : h 6 = aI 14 o) (g7 : h 7 = aI 15 pp) (hx : ∀ i, x i < k) (ho : ∀ i, i < d → o i = nI (x i)) (hd : d ≤ 14) : Ct G mX3_wordsAboveRow 1 0 0 [.ref 5, .int (nI d)] h (fun r h2 => r = some (.int (nI (abv k d x))) ∧ (∃ p2, h2 7 = aI 15 p2) ∧ Fr [7] h h2) := by
  generalize hQ : (fun (r : Option Value) (h2 : ah) => r = some (.int (nI (abv k d x))) ∧ (∃ p2, h2 7 = aI 15 p2) ∧ Fr [7] h h2) = Q
  have last : ∀ m q (hh : ah) (p2 : Nat → Int32), q + m = d → hh 7 = aI 15 p2 → (∀ j, j ≤ d → p2 j = nI (pt (gk k x) d j)) → Fr [7] h hh → V G mX3_wordsAboveRow (b0 1) 73 [some (.ref 5), some (.int (nI d)), some (.int (nI (amm (gk k x) (pt (gk k x) d) d q))), some (.int (nI (q + 1)))] [] hh Q := by
    intro m
    induction m with
    | zero =>
      intro q hh p2 hq c7 cp cf
      refine tX3_wordsAboveRow_73 (fun _ => ?_) (fun z => absurd (nI_lt (by omega) (by omega)) z)
      rw [← hQ, show q = d by omega]
      exact ⟨rfl, ⟨p2, c7⟩, cf⟩
    | succ m ih =>
      intro q hh p2 hq c7 cp cf
      have c5 := (cf 5 (by decide)).trans g5
      refine tX3_wordsAboveRow_73 (fun z => absurd z (nI_nlt (by omega) (by omega))) (fun _ => ?_)
      rw [show nI (q + 1) - (1 : Int32) = nI q from nI_pred q]
      refine cX3_wordsAboveRow_84 (k := 3) (C_greater ok ((cf 3 (by decide)).trans g3) c5 ((cf 6 (by decide)).trans g6) hx ho hd (by omega) (dp := 0)) c5 ⟨by decide, by decide⟩ (Nat.le_of_ble_eq_true rfl) ⟨Nat.le_refl _, Nat.le_refl _⟩ (fun r h3 e => ?_)
      obtain ⟨rfl, e⟩ := e; replace e := e.symm; subst e
      have es : nI d - nI (q + 1) = nI (d - (q + 1)) := pk_sub (by omega)
      refine tX3_wordsAboveRow_87 c5 c7 (by rw [es]; exact vp_in_nI (by omega) (by decide)) ?_
      rw [es, nI_clamp (by omega), cp _ (by omega), pk_mul, pk_mul, nI_add, nI_1]
      exact ih (q + 1) hh p2 (by omega) c7 cp cf
  have mid : ∀ m f (hh : ah) (p2 : Nat → Int32), f + m = d → hh 7 = aI 15 p2 → (∀ j, j ≤ f → p2 j = nI (pt (gk k x) f j)) → Fr [7] h hh → V G mX3_wordsAboveRow (b0 1) 11 [some (.ref 5), some (.int (nI d)), some (.int 0), some (.int (nI (f + 1)))] [] hh Q := by
    intro m
    induction m with
    | zero =>
      intro f hh p2 hf c7 cp cf
      refine tX3_wordsAboveRow_11 ((cf 5 (by decide)).trans g5) c7 (fun _ => ?_) (fun z => absurd (nI_lt (by omega) (by omega)) z) (fun z => absurd (nI_lt (by omega) (by omega)) z)
      have hfd : f = d := by omega
      rw [hfd] at cp
      exact last d 0 hh p2 (by omega) c7 cp cf
    | succ m ih =>
      intro f hh p2 hf c7 cp cf
      have c5 := (cf 5 (by decide)).trans g5
      refine tX3_wordsAboveRow_11 c5 c7 (fun z => absurd z (nI_nlt (by omega) (by omega))) (fun _ => vp_in_nI (by omega) (by decide)) (fun _ => ?_)
      rw [nI_clamp (by omega)]
      have inn : ∀ m2 q (h3 : ah) (p3 : Nat → Int32), q + m2 = f + 1 → h3 7 = aI 15 p3 → (∀ j, j ≤ f → p3 j = nI (pt (gk k x) f j)) → p3 (f + 1) = nI (smm (gk k x) (pt (gk k x) f) (f + 1) q) → Fr [7] h h3 → V G mX3_wordsAboveRow (b0 1) 26 [some (.ref 5), some (.int (nI d)), some (.int 0), some (.int (nI (f + 1))), some (.int (nI (q + 1)))] [] h3 Q := by
        intro m2
        induction m2 with
        | zero =>
          intro q h3 p3 hq d7 dp dn df
          have hqf : q = f + 1 := by omega
          refine tX3_wordsAboveRow_26 ((df 5 (by decide)).trans g5) d7 (fun _ => ?_) (fun z => absurd (nI_lt (by omega) (by omega)) z) (fun z => absurd (nI_lt (by omega) (by omega)) z)
          rw [nI_1]
          refine ih (f + 1) h3 p3 (by omega) d7 (fun j hj => ?_) df
          show p3 j = nI (if j = f + 1 then smm (gk k x) (pt (gk k x) f) (f + 1) (f + 1) else pt (gk k x) f j)
          by_cases hjf : j = f + 1
          · rw [if_pos hjf, hjf, dn, hqf]
          · rw [if_neg hjf]; exact dp j (by omega)
        | succ m2 ih2 =>
          intro q h3 p3 hq d7 dp dn df
          have e5 := (df 5 (by decide)).trans g5
          refine tX3_wordsAboveRow_26 e5 d7 (fun z => absurd z (nI_nlt (by omega) (by omega))) (fun _ => vp_in_nI (by omega) (by decide)) (fun _ => ?_)
          rw [show nI (q + 1) - (1 : Int32) = nI q from nI_pred q, nI_clamp (by omega), dn]
          refine cX3_wordsAboveRow_44 (k := 3) (C_greater ok ((df 3 (by decide)).trans g3) e5 ((df 6 (by decide)).trans g6) hx ho hd (by omega) (dp := 0)) e5 ⟨by decide, by decide⟩ (Nat.le_of_ble_eq_true rfl) ⟨Nat.le_refl _, Nat.le_refl _⟩ (fun r h4 e => ?_)
          obtain ⟨rfl, e⟩ := e; replace e := e.symm; subst e
          have es : nI (f + 1) - nI (q + 1) = nI (f + 1 - (q + 1)) := pk_sub (by omega)
          refine tX3_wordsAboveRow_47 e5 d7 (by rw [es]; exact vp_in_nI (by omega) (by decide)) (vp_in_nI (by omega) (by decide)) ?_
          rw [es, nI_clamp (by omega), nI_clamp (by omega), dp _ (by omega), pk_mul, nI_add, nI_1]
          refine ih2 (q + 1) _ _ (by omega) (up_s _ _ _) (fun j hj => ?_) (by rw [pk_us]; rfl) (df.up (by decide))
          rw [pk_un (by omega)]; exact dp j hj
      exact inn (f + 1) 0 _ _ (by omega) (up_s _ _ _) (fun j hj => by rw [pk_un (by omega)]; exact cp j hj) (by rw [pk_us]; rfl) (cf.up (by decide))
  refine Ct_of (by decide +kernel) (Nat.le_of_ble_eq_true rfl) (tX3_wordsAboveRow_0 g5 g7 (vp_in_nI (n := 0) (by decide) (by decide)) ?_)
  exact mid d 0 _ _ (by omega) (up_s _ _ _) (fun j hj => by rw [show j = 0 by omega]; exact pk_us) (Fr.rf.up (by decide))
/-- the letters of a number -/
def dgt (k d u i : Nat) : Nat := if i < d then u / k ^ (d - 1 - i) % k else 0
theorem dgt_lt (hk : 0 < k) {d u i : Nat} : dgt k d u i < k := by
  unfold dgt
  split
  · exact Nat.mod_lt _ hk
  · exact hk
theorem rn_dgt {k d u : Nat} (hk : 0 < k) (hu : u < k ^ d) : rn k (dgt k d u) d = u := by
  have key : ∀ j, j ≤ d → rn k (dgt k d u) j = u / k ^ (d - j) := by
    intro j
    induction j with
    | zero => intro _; rw [Nat.sub_zero, Nat.div_eq_of_lt hu]; rfl
    | succ j ih =>
      intro hj
      show rn k (dgt k d u) j * k + dgt k d u j = _
      rw [ih (by omega), dgt, if_pos (by omega), show d - j = d - (j + 1) + 1 by omega, Nat.pow_succ, ← Nat.div_div_eq_div_mul, show d - 1 - j = d - (j + 1) by omega, Nat.mul_comm, Nat.div_add_mod]
  have := key d (Nat.le_refl _)
  rw [Nat.sub_self, Nat.pow_zero, Nat.div_one] at this
  exact this
theorem C_wordsUpTo {d u : Nat} {o pp pw : Nat → Int32} (ok : okW k n) (g3 : h 3 = cW k n) (g4 : h 4 = aI 15 pw) (hp : isP k n pw) (g5 : h 5 = cK5) (g6 : h 6 = aI 14 o) (g7 : h 7 = aI 15 pp) (hd1 : 1 ≤ d) (hd : d ≤ n) (hu : u < k ^ d) : Ct G mX3_wordsUpTo 3 0 0 [.ref 5, .int (nI d), .int (nI u)] h (fun r h2 => r = some (.int (nI (k ^ d) - nI (abv k d (lwr k d d (dgt k d u))))) ∧ (∃ a, h2 6 = aI 14 a) ∧ (∃ a, h2 7 = aI 15 a) ∧ Fr [6, 7] h h2) := by
  have hk := ok.1
  have hk5 := ok.2.1
  have hn2 := ok.2.2.2.1
  have hdl := ok.le hd
  generalize hQ : (fun (r : Option Value) (h2 : ah) => r = some (.int (nI (k ^ d) - nI (abv k d (lwr k d d (dgt k d u))))) ∧ (∃ a, h2 6 = aI 14 a) ∧ (∃ a, h2 7 = aI 15 a) ∧ Fr [6, 7] h h2) = Q
  have fill : ∀ i (hh : ah) (o2 : Nat → Int32), i ≤ d → hh 6 = aI 14 o2 → (∀ j, i ≤ j → j < d → o2 j = nI (dgt k d u j)) → Fr [6] h hh → V G mX3_wordsUpTo (b0 3) 13 [some (.ref 5), some (.int (nI d)), some (.int (nI u)), some (.int (nI (u / k ^ (d - i)))), some (.int (nI i - 1))] [] hh Q := by
    intro i
    induction i with
    | zero =>
      intro hh o2 hi c6 co cf
      have c5 := (cf 5 (by decide)).trans g5
      refine tX3_wordsUpTo_13 c5 ((cf 3 (by decide)).trans g3) c6 (fun _ => ?_) (fun z => absurd (by decide) z) (fun z => absurd (by decide) z) (fun z => absurd (by decide) z) (fun z => absurd (by decide) z)
      refine cX3_wordsUpTo_52 (k := 3) (C_lower (x := dgt k d u) ok ((cf 3 (by decide)).trans g3) c5 c6 (fun i => dgt_lt ok.pos) (fun j hj => co j (Nat.zero_le _) hj) hd1 (by omega)) c5 ⟨by decide, by decide⟩ (Nat.le_of_ble_eq_true rfl) ⟨Nat.le_refl _, Nat.le_refl _⟩ (fun r h3 e => ?_)
      obtain ⟨rfl, ⟨o3, d6, dr⟩, df⟩ := e
      have hf3 : Fr [6] h h3 := Fr.tr cf df (by decide)
      have d5 := (hf3 5 (by decide)).trans g5
      refine tX3_wordsUpTo_55 d5 ((hf3 3 (by decide)).trans g3) ((hf3 4 (by decide)).trans g4) (vp_in_nI (by omega) (by decide)) ?_
      have hlw : ∀ i, lwr k d d (dgt k d u) i < k := (lwr_ok hk hd1 d (dgt k d u) (fun i => dgt_lt ok.pos) (by
        rcases fft_ok (d := d) (x := dgt k d u) (k := k) (fun i => dgt_lt ok.pos) (d - 1) 1 1 (by omega) pre_1 with ⟨q1, -⟩ | ⟨-, q1, -⟩
        · exact Or.inl q1
        · exact Or.inr (Nat.le_of_lt q1)) hd1).1
      refine cX3_wordsUpTo_66 (k := 3) (C_above (x := lwr k d d (dgt k d u)) ok ((hf3 3 (by decide)).trans g3) d5 d6 ((hf3 7 (by decide)).trans g7) hlw dr (by omega)) d5 ⟨by decide, by decide⟩ (Nat.le_of_ble_eq_true rfl) ⟨Nat.le_refl _, Nat.le_refl _⟩ (fun r h4 e => ?_)
      obtain ⟨rfl, ⟨p2, e7⟩, ef⟩ := e
      refine tX3_wordsUpTo_69 ?_
      rw [nI_clamp (by omega), hp d hd, ← hQ]
      exact ⟨rfl, ⟨o3, (ef 6 (by decide)).trans d6⟩, ⟨p2, e7⟩, Fr.tr (hf3.mono (by decide)) ef (by decide)⟩
    | succ i ih =>
      intro hh o2 hi c6 co cf
      have e1 : nI (i + 1) - (1 : Int32) = nI i := nI_pred i
      have hq := Nat.div_le_self u (k ^ (d - (i + 1)))
      rw [e1]
      refine tX3_wordsUpTo_13 ((cf 5 (by decide)).trans g5) ((cf 3 (by decide)).trans g3) c6 (fun z => absurd z (nI_pos (by omega))) (fun _ => nI_n0 ok.pos (by omega)) (fun _ => vp_in_nI (by omega) (by decide)) (fun _ => nI_n0 ok.pos (by omega)) (fun _ => ?_)
      have e2 : u / k ^ (d - (i + 1)) / k = u / k ^ (d - i) := by
        rw [Nat.div_div_eq_div_mul, ← Nat.pow_succ, show (d - (i + 1)).succ = d - i by omega]
      rw [pk_rem (by omega) ok.pos (by omega), pk_div (by omega) ok.pos (by omega), nI_clamp (by omega), m1_add, e2]
      refine ih _ _ (by omega) (up_s _ _ _) (fun j h1 h2 => ?_) (cf.up (by decide))
      by_cases hji : j = i
      · rw [hji, pk_us, dgt, if_pos (by omega), show d - 1 - i = d - (i + 1) by omega]
      · rw [pk_un hji]; exact co j (by omega) h2
  refine Ct_of (by decide +kernel) (Nat.le_of_ble_eq_true rfl) (tX3_wordsUpTo_0 (fun _ => ?_) (fun z => absurd (nI_le (a := 0) (b := u) (Nat.zero_le _) (by omega)) z))
  have := fill d h o (Nat.le_refl _) g6 (fun j h1 h2 => by omega) Fr.rf
  rw [Nat.sub_self, Nat.pow_zero, Nat.div_one] at this
  exact this
theorem C_wordsNeg {d : Nat} {v : Int32} (hv : v < 0) {dp : Nat} : Ct G mX3_wordsUpTo dp 0 0 [.ref 5, .int (nI d), .int v] h (Rv (.int 0) h) :=
  Ct_of (by decide +kernel) (Nat.le_of_ble_eq_true rfl) (tX3_wordsUpTo_0 (fun z => absurd hv (Int32.not_lt.mpr z)) (fun _ => ⟨rfl, rfl⟩))
end CC
