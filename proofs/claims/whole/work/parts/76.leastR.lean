/-! the least round: both answers -/
def lastn (k : Nat) (x : Nat → Nat) : Nat → Nat
  | 0 => 0
  | j + 1 => if x j = k - 1 then lastn k x j else j + 1
theorem lastn_ok {k : Nat} {x : Nat → Nat} : ∀ j, lastn k x j ≤ j ∧ (lastn k x j ≠ 0 → x (lastn k x j - 1) ≠ k - 1) ∧ ∀ i, lastn k x j ≤ i → i < j → x i = k - 1
  | 0 => ⟨Nat.le_refl _, fun h => absurd rfl h, fun i h1 h2 => absurd h2 (Nat.not_lt_zero i)⟩
  | j + 1 => by
    unfold lastn
    by_cases hc : x j = k - 1
    · rw [if_pos hc]
      obtain ⟨a1, a2, a3⟩ := lastn_ok (k := k) (x := x) j
      refine ⟨by omega, a2, fun i h1 h2 => ?_⟩
      by_cases hij : i = j
      · rw [hij]; exact hc
      · exact a3 i h1 (by omega)
    · rw [if_neg hc]
      exact ⟨Nat.le_refl _, fun _ => by rw [Nat.add_sub_cancel]; exact hc, fun i h1 h2 => absurd h1 (by omega)⟩
section LR
variable {G : gx} {h : ah} {k n : Nat}
theorem C_nextRow {kd fm : Int32} {s : Nat} {o : Nat → Int32} {x : Nat → Nat} (ok : okW k n) (g3 : h 3 = cW k n) (g17 : h 17 = cO kd fm) (g20 : h 20 = aI 14 o) (hs1 : 1 ≤ s) (hs : s ≤ n) (hx : ∀ i, x i < k) (hp : ∀ i, x (i + s) = x i) (ho : ∀ i, i < s → o i = nI (x i)) {d : Nat} : Ct G mX4_nextRow d 0 0 [.ref 17, .int (nI s)] h (fun r h2 => r = some (.int (nI (lastn k x n))) ∧ (∃ o2, h2 20 = aI 14 o2 ∧ (lastn k x n ≠ 0 → ∀ i, i < lastn k x n → o2 i = nI (rnx x (lastn k x n) i))) ∧ Fr [20] h h2) := by
  have hk5 := ok.2.1
  have hk := ok.1
  have hn2 := ok.2.2.2.1
  generalize hQ : (fun (r : Option Value) (h2 : ah) => r = some (.int (nI (lastn k x n))) ∧ (∃ o2, h2 20 = aI 14 o2 ∧ (lastn k x n ≠ 0 → ∀ i, i < lastn k x n → o2 i = nI (rnx x (lastn k x n) i))) ∧ Fr [20] h h2) = Q
  have strip : ∀ j (hh : ah) (o2 : Nat → Int32), j ≤ n → lastn k x j = lastn k x n → hh 20 = aI 14 o2 → (∀ i, i < n → o2 i = nI (x i)) → Fr [20] h hh → V G mX4_nextRow (b0 d) 41 [some (.ref 17), some (.int (nI s)), some (.int (nI j))] [] hh Q := by
    intro j
    induction j with
    | zero =>
      intro hh o2 hj hl c20 co cf
      have h0 : lastn k x n = 0 := hl.symm
      refine tX4_nextRow_41 (x2 := nI 0) ((cf 17 (by decide)).trans g17) c20 ((cf 3 (by decide)).trans g3) (fun _ _ => ?_) (fun z1 z2 => absurd z1 z2) (fun z1 z2 => absurd z1 z2) (fun z1 z2 => absurd z1 z2) (fun z => absurd (by decide) z) (fun z => absurd (by decide) z) (fun z => absurd (by decide) z) (fun z => absurd (by decide) z) (fun z => absurd (by decide) z) (fun z => absurd (by decide) z)
      rw [← hQ]
      exact ⟨by rw [h0], ⟨o2, c20, fun z => absurd h0 z⟩, cf⟩
    | succ j ih =>
      intro hh o2 hj hl c20 co cf
      have hxj := hx j
      have e1 : nI (j + 1) - (1 : Int32) = nI j := nI_pred j
      have ek : nI k - (1 : Int32) = nI (k - 1) := pk_sub (a := k) (b := 1) (by omega)
      have nle : ¬ nI (j + 1) ≤ 0 := nI_nle (by omega) (by omega)
      have vj : vp_in (nI j) 14 := vp_in_nI (by omega) (by decide)
      have ev : o2 (nI j).toNatClampNeg = nI (x j) := by rw [nI_clamp (by omega)]; exact co j (by omega)
      refine tX4_nextRow_41 ((cf 17 (by decide)).trans g17) c20 ((cf 3 (by decide)).trans g3) (fun z => absurd z nle) (fun z => absurd z nle) (fun z => absurd z nle) (fun z => absurd z nle) (fun _ => by rw [e1]; exact vj) (fun _ _ z => absurd z nle) (fun _ _ _ => by rw [e1]; exact vj) (fun _ _ _ => by rw [e1]; exact vj) (fun _ z _ => ?_) (fun _ z => ?_)
      · rw [e1, ev, ek, nI_eq (by omega) (by omega)] at z
        have hm : lastn k x n = j + 1 := by rw [← hl, lastn, if_neg z]
        rw [e1, ev, nI_1, nI_clamp (by omega), ← hQ]
        refine ⟨by rw [hm], ⟨_, up_s _ _ _, fun _ i hi => ?_⟩, cf.up (by decide)⟩
        rw [hm] at hi ⊢
        unfold rnx
        rw [Nat.mod_eq_of_lt hi]
        by_cases hij : i = j
        · rw [hij, pk_us, if_pos (by omega), Nat.add_sub_cancel]
        · rw [pk_un hij, if_neg (by omega)]
          exact co i (by omega)
      · rw [e1, ev, ek, nI_eq (by omega) (by omega)] at z
        rw [m1_add, e1]
        exact ih hh o2 (by omega) (by rw [← hl, lastn, if_pos z]) c20 co cf
  have ext : ∀ m i (hh : ah) (o2 : Nat → Int32), i + m = n → s ≤ i → hh 20 = aI 14 o2 → (∀ j, j < i → o2 j = nI (x j)) → Fr [20] h hh → V G mX4_nextRow (b0 d) 2 [some (.ref 17), some (.int (nI s)), some (.int (nI i))] [] hh Q := by
    intro m
    induction m with
    | zero =>
      intro i hh o2 hi his c20 co cf
      have kle : nI n ≤ nI i := nI_le (by omega) (by omega)
      refine tX4_nextRow_2 ((cf 17 (by decide)).trans g17) ((cf 3 (by decide)).trans g3) c20 (fun _ => ?_) (fun z => absurd kle z) (fun z => absurd kle z) (fun z => absurd kle z)
      exact strip n hh o2 (Nat.le_refl _) rfl c20 (fun j hj => co j (by omega)) cf
    | succ m ih =>
      intro i hh o2 hi his c20 co cf
      have e1 : nI i - nI s = nI (i - s) := pk_sub his
      refine tX4_nextRow_2 ((cf 17 (by decide)).trans g17) ((cf 3 (by decide)).trans g3) c20 (fun z => absurd z (nI_ge (by omega) (by omega))) (fun _ => by rw [e1]; exact vp_in_nI (by omega) (by decide)) (fun _ => vp_in_nI (by omega) (by decide)) (fun _ => ?_)
      rw [e1, nI_1, nI_clamp (by omega), nI_clamp (by omega), co (i - s) (by omega)]
      refine ih (i + 1) _ _ (by omega) (by omega) (up_s _ _ _) (fun j hj => ?_) (cf.up (by decide))
      by_cases hji : j = i
      · rw [hji, pk_us]
        have := hp (i - s)
        rw [show i - s + s = i by omega] at this
        rw [this]
      · rw [pk_un hji]; exact co j (by omega)
  refine Ct_of (by decide +kernel) (Nat.le_of_ble_eq_true rfl) (tX4_nextRow_0 ?_)
  exact ext (n - s) s h o (by omega) (Nat.le_refl _) g20 ho Fr.rf
theorem C_becomeLeast {kd fm : Int32} {rl pl o : Nat → Int32} (ok : okW k n) (g3 : h 3 = cW k n) (g17 : h 17 = cO kd fm) (g18 : h 18 = aB 20000 rl) (g19 : h 19 = aI 20000 pl) (g20 : h 20 = aI 14 o) : Ct G mX4_becomeLeast 1 0 0 [.ref 17] h (fun r h2 => r = none ∧ h2 17 = cO 0 fm ∧ (∃ r2, h2 18 = aB 20000 r2 ∧ ∀ j, j < k ^ n → r2 j = nI (stF k n (k ^ n) j)) ∧ h2 19 = aI 20000 (plw (fun i => wv k (stF k n (k ^ n)) (k ^ n) i n) (k ^ n) 0 pl) ∧ (∃ o2, h2 20 = aI 14 o2) ∧ Fr [17, 18, 19, 20] h h2) := by
  have hN := ok.le (Nat.le_refl n)
  have hk := ok.1
  have hk5 := ok.2.1
  have hn := ok.2.2.1
  have hn2 := ok.2.2.2.1
  have h0 := ok.pp n
  generalize hQ : (fun (r : Option Value) (h2 : ah) => r = none ∧ h2 17 = cO 0 fm ∧ (∃ r2, h2 18 = aB 20000 r2 ∧ ∀ j, j < k ^ n → r2 j = nI (stF k n (k ^ n) j)) ∧ h2 19 = aI 20000 (plw (fun i => wv k (stF k n (k ^ n)) (k ^ n) i n) (k ^ n) 0 pl) ∧ (∃ o2, h2 20 = aI 14 o2) ∧ Fr [17, 18, 19, 20] h h2) = Q
  have fin : ∀ (hh : ah) (r2 o2 : Nat → Int32) (f s t : Int32), hh 18 = aB 20000 r2 → (∀ j, j < k ^ n → r2 j = nI (stF k n (k ^ n) j)) → hh 20 = aI 14 o2 → Fr [18, 20] h hh → V G mX4_becomeLeast (b0 1) 96 [some (.ref 17), some (.int f), some (.int s), some (.int t)] [.ref 17] (va_up hh 17 (cO 0 fm)) Q := by
    intro hh r2 o2 f s t c18 cr c20 cf
    refine cX4_becomeLeast_96 (k := 15) (h := va_up hh 17 (cO 0 fm)) (C_findPlaces (rr := stF k n (k ^ n)) ok (n_lt_pow hk n) ((up_n _ _ (by decide)).trans ((cf 3 (by decide)).trans g3)) (up_s _ _ _) ((up_n _ _ (by decide)).trans c18) (fun j hj => ⟨cr j hj, stF_lt ok.pos _ j⟩) (st_wv ok) ((up_n _ _ (by decide)).trans ((cf 19 (by decide)).trans g19)) (d := 0)) (up_s _ _ _) ⟨by decide, by decide⟩ (Nat.le_of_ble_eq_true rfl) ⟨Nat.le_refl _, Nat.le_refl _⟩ (fun r h5 e => ?_)
    obtain ⟨rfl, e⟩ := e; replace e := e.symm; subst e
    refine tX4_becomeLeast_99 ?_
    rw [← hQ]
    exact ⟨rfl, rfl, ⟨r2, c18, cr⟩, up_s _ _ _, ⟨o2, c20⟩, Fr.up (Fr.up (cf.mono (by decide)) (by decide)) (by decide)⟩
  have main : ∀ b (x : Nat → Nat) s t (hh : ah) (r2 o2 : Nat → Int32), k ^ n ≤ rn k x n + b → rst k n s x → t ≤ rn k x n → hh 18 = aB 20000 r2 → (∀ j, j < stA k n (rn k x n) → r2 j = nI (stF k n (rn k x n) j)) → hh 20 = aI 14 o2 → (∀ i, i < s → o2 i = nI (x i)) → Fr [18, 20] h hh → V G mX4_becomeLeast (b0 1) 13 [some (.ref 17), some (.int (nI (stA k n (rn k x n)))), some (.int (nI s)), some (.int (nI t))] [] hh Q := by
    intro b
    induction b with
    | zero =>
      intro x s t hh r2 o2 hb hr
      have := (rst_f hr).1
      omega
    | succ b ih =>
      intro x s t hh r2 o2 hb hr ht c18 cr c20 co cf
      obtain ⟨f1, f2, f3⟩ := rst_f hr
      have hr2 := hr
      obtain ⟨hs1, hs, hx, hp, -⟩ := hr
      have c17 := (cf 17 (by decide)).trans g17
      have c3 := (cf 3 (by decide)).trans g3
      have hA := stA_le ok (w := rn k x n + 1) (by omega)
      have hA0 := stA_le ok (w := rn k x n) (by omega)
      -- behind the writing: the next row
      have next : ∀ (h3 : ah) (r3 : Nat → Int32) (f : Int32), f = nI (stA k n (rn k x n + 1)) → h3 18 = aB 20000 r3 → (∀ j, j < stA k n (rn k x n + 1) → r3 j = nI (stF k n (rn k x n + 1) j)) → h3 20 = aI 14 o2 → Fr [18, 20] h h3 → V G mX4_becomeLeast (b0 1) 80 [some (.ref 17), some (.int f), some (.int (nI s)), some (.int (nI t))] [.int (nI s), .ref 17] h3 Q := by
        intro h3 r3 f hf d18 dr d20 df
        subst hf
        have d17 := (df 17 (by decide)).trans g17
        have d3 := (df 3 (by decide)).trans g3
        refine cX4_becomeLeast_80 (k := 15) (C_nextRow (x := x) ok d3 d17 d20 hs1 hs hx hp co (d := 0)) d17 ⟨by decide, by decide⟩ (Nat.le_of_ble_eq_true rfl) ⟨Nat.le_refl _, Nat.le_refl _⟩ (fun r h4 e => ?_)
        obtain ⟨rfl, ⟨o3, e20, eo⟩, ef⟩ := e
        refine tX4_becomeLeast_83 ?_
        rw [nI_1]
        have e18 := (ef 18 (by decide)).trans d18
        have eff : Fr [18, 20] h h4 := Fr.tr df ef (by decide)
        obtain ⟨m1, m2, m3⟩ := lastn_ok (k := k) (x := x) n
        by_cases hm0 : lastn k x n = 0
        · rw [hm0] at m3
          have hmax := rn_max (k := k) (x := x) hk n (fun i hi => m3 i (Nat.zero_le _) hi)
          rw [hm0, hmax]
          rw [hmax] at dr
          refine tX4_becomeLeast_13 (x2 := nI 0) ((eff 17 (by decide)).trans g17) ((eff 3 (by decide)).trans g3) (fun z => absurd z (nI_ge (b := 40000) (by omega) (by decide))) (fun _ _ => ?_) (fun _ z => absurd (by decide) z) (fun _ z => absurd (by decide) z) (fun _ z => absurd (by decide) z)
          refine fin h4 r3 o3 _ _ _ e18 (fun j hj => dr j (by rw [stA_N ok]; exact hj)) e20 eff
        · obtain ⟨n1, n2, n3⟩ := r_next hk hr2 (by omega) m1 (m2 hm0) m3
          obtain ⟨sk1, sk2⟩ := st_sk (k := k) (n := n) (rn k x n + 1) (rn k (rnx x (lastn k x n)) n - (rn k x n + 1)) (fun w w1 w2 => n3 w (by omega) (by omega))
          rw [show rn k x n + 1 + (rn k (rnx x (lastn k x n)) n - (rn k x n + 1)) = rn k (rnx x (lastn k x n)) n by omega] at sk1 sk2
          rw [← sk1]
          refine ih (rnx x (lastn k x n)) (lastn k x n) (t + 1) h4 r3 o3 (by omega) n1 (by omega) e18 ?_ e20 (eo hm0) eff
          rw [sk1, sk2]
          exact dr
      have es : nI n - nI n / nI s * nI s = nI (n % s) := pk_rem (by omega) (by omega) (by omega)
      have hms := Nat.mod_lt n (show 0 < s by omega)
      refine tX4_becomeLeast_13 c17 c3 (fun z => absurd z (nI_ge (b := 40000) (by omega) (by decide))) (fun _ z => absurd z (nI_nle (by omega) (by omega))) (fun _ _ => nI_n0 (by omega) (by omega)) (fun _ _ z => ?_) (fun _ _ z => ?_)
      · rw [es] at z
        have hd : ¬ n % s = 0 := fun q => z (by rw [q]; rfl)
        have hno := ly_no ok.pos hs hs1 f1 f2 f3 hd
        obtain ⟨sk1, sk2⟩ := st_sk (k := k) (n := n) (rn k x n) 1 (fun w w1 w2 => by rw [show w = rn k x n by omega]; exact hno)
        refine next hh r2 _ (by rw [sk1]) c18 ?_ c20 cf
        rw [sk1, sk2]
        exact cr
      · rw [es] at z
        have hd : n % s = 0 := (nI_eq (b := 0) (by omega) (by omega)).mp z
        obtain ⟨hlo, hsz⟩ := ly_yes ok.pos hs hs1 f1 f2 f3 hd
        have hA1 : stA k n (rn k x n + 1) = stA k n (rn k x n) + s := by
          show stA k n (rn k x n) + (if lo k n (rn k x n) = rn k x n then sz k n (rn k x n) else 0) = _
          rw [if_pos hlo]
          exact congrArg _ hsz
        have wr2 : ∀ q j (h3 : ah) (r3 : Nat → Int32), j + q = s → h3 18 = aB 20000 r3 → (∀ i, i < stA k n (rn k x n) → r3 i = nI (stF k n (rn k x n) i)) → (∀ i, i < j → r3 (stA k n (rn k x n) + i) = nI (x i)) → Fr [18] hh h3 → V G mX4_becomeLeast (b0 1) 38 [some (.ref 17), some (.int (nI (stA k n (rn k x n) + j))), some (.int (nI s)), some (.int (nI t)), some (.int (nI j))] [] h3 Q := by
          intro q
          induction q with
          | zero =>
            intro j h3 r3 hj d18 dr dn df
            have hjs : j = s := by omega
            have kle : nI s ≤ nI j := nI_le (by omega) (by omega)
            refine tX4_becomeLeast_38 ((df 17 (by decide)).trans c17) ((df 3 (by decide)).trans c3) ((df 20 (by decide)).trans c20) d18 (fun _ => ?_) (fun z => absurd kle z) (fun z => absurd kle z) (fun z => absurd kle z) (fun z => absurd kle z)
            refine next h3 r3 _ (by rw [hA1, hjs]) d18 (fun i hi => ?_) ((df 20 (by decide)).trans c20) (Fr.tr cf df (by decide))
            show r3 i = nI (if lo k n (rn k x n) = rn k x n then (if stA k n (rn k x n) ≤ i ∧ i < stA k n (rn k x n) + sz k n (rn k x n) then rn k x n / k ^ (n - 1 - (i - stA k n (rn k x n))) % k else stF k n (rn k x n) i) else stF k n (rn k x n) i)
            rw [if_pos hlo]
            by_cases hi2 : i < stA k n (rn k x n)
            · rw [if_neg (by omega)]; exact dr i hi2
            · have e2 : sz k n (rn k x n) = s := hsz
              rw [if_pos (by omega), rn_dig hx (by omega)]
              have := dn (i - stA k n (rn k x n)) (by omega)
              rw [show stA k n (rn k x n) + (i - stA k n (rn k x n)) = i by omega] at this
              exact this
          | succ q ihq =>
            intro j h3 r3 hj d18 dr dn df
            have hxj := hx j
            have ev : o2 (nI j).toNatClampNeg = nI (x j) := by rw [nI_clamp (by omega)]; exact co j (by omega)
            refine tX4_becomeLeast_38 ((df 17 (by decide)).trans c17) ((df 3 (by decide)).trans c3) ((df 20 (by decide)).trans c20) d18 (fun z => absurd z (nI_ge (by omega) (by omega))) (fun _ z => absurd z (nI_ge (by omega) (by omega))) (fun _ _ => vp_in_nI (by omega) (by decide)) (fun _ _ => vp_in_nI (by omega) (by decide)) (fun _ _ => ?_)
            rw [ev, nar_b _ (by omega), nI_1, nI_1, nI_clamp (by omega)]
            refine ihq (j + 1) _ _ (by omega) (up_s _ _ _) (fun i hi => ?_) (fun i hi => ?_) (df.up (by decide))
            · rw [pk_un (by omega)]; exact dr i hi
            · by_cases hij : i = j
              · rw [hij, pk_us]
              · rw [pk_un (by omega)]; exact dn i (by omega)
        exact wr2 s 0 hh r2 (by omega) c18 cr (fun i hi => absurd hi (Nat.not_lt_zero i)) Fr.rf
  have hr0 : rst k n 1 (fun _ => 0) := ⟨Nat.le_refl _, hn, fun _ => ok.pos, fun _ => rfl, fun i h1 h2 => absurd h1 (by omega)⟩
  have rz0 : rn k (fun _ => 0) n = 0 := by
    have : ∀ j, rn k (fun _ => 0) j = 0 := by
      intro j
      induction j with
      | zero => rfl
      | succ j ih => show rn k (fun _ => 0) j * k + 0 = 0; rw [ih, Nat.zero_mul]
    exact this n
  refine Ct_of (by decide +kernel) (Nat.le_of_ble_eq_true rfl) (tX4_becomeLeast_0 g17 g20 (vp_in_nI (n := 0) (by decide) (by decide)) ?_)
  have := main (k ^ n) (fun _ => 0) 1 0 (va_up h 20 (aI 14 (upd o 0 0))) rl (upd o 0 0) (by omega) hr0 (Nat.zero_le _) ((up_n _ _ (by decide)).trans g18) (fun j hj => by rw [rz0] at hj; exact absurd hj (Nat.not_lt_zero j)) (up_s _ _ _) (fun i hi => by rw [show i = 0 by omega, pk_us]; rfl) (Fr.rf.up (by decide))
  rw [rz0] at this
  exact this
theorem X_round_least {f l kd fm : Int32} {rl pl o : Nat → Int32} (ok : okW k n) (g2 : h 2 = cX f l) (g3 : h 3 = cW k n) (g17 : h 17 = cO kd fm) (g18 : h 18 = aB 20000 rl) (g19 : h 19 = aI 20000 pl) (g20 : h 20 = aI 14 o) : Ct G mX7_round 5 0 0 [.ref 2, .int 0] h (fun r h2 => r = some (.int (nI (k ^ n))) ∧ h2 17 = cO 0 fm ∧ (∃ r2, h2 18 = aB 20000 r2 ∧ ∀ j, j < k ^ n → r2 j = nI (stF k n (k ^ n) j)) ∧ h2 19 = aI 20000 (plw (fun i => wv k (stF k n (k ^ n)) (k ^ n) i n) (k ^ n) 0 pl) ∧ (∃ o2, h2 20 = aI 14 o2) ∧ Fr [17, 18, 19, 20] h h2) := by
  refine Ct_of (by decide +kernel) (Nat.le_of_ble_eq_true rfl) (tX7_round_0 ?_)
  refine V_tabIn (off := 27) (t := 28) dX7_round_1 (by decide) (by decide) (by decide +kernel) (by decide) ?_
  refine tX7_round_28 g2 ?_
  refine cX7_round_32 (k := 15) (C_becomeLeast ok g3 g17 g18 g19 g20) g17 ⟨by decide, by decide⟩ (Nat.le_of_ble_eq_true rfl) ⟨Nat.le_refl _, Nat.le_refl _⟩ (fun r h2 e => ?_)
  obtain ⟨rfl, e1, e2, e3, e4, e5⟩ := e
  exact tX7_round_35 ((e5 2 (by decide)).trans g2) ((e5 3 (by decide)).trans g3) ⟨rfl, e1, e2, e3, e4, e5⟩
end LR
section LM
variable {G : gx} {h : ah} {k n : Nat} {ms mx mc mw ml mf mp mg : Int32}
theorem M_leastRound {rl lf : Nat → Int32} (ok : okW k n) (g42 : h 42 = cM (nI k) (nI n) (nI (k ^ n)) ms mx mc mw ml mf mp mg) (g43 : h 43 = aI 20000 lf) (hlf : ∀ w, w < k ^ n → lf w = nI (lo k n w)) (g53 : h 53 = aI 20000 rl) : Ct G mX8_leastRound 2 0 0 [.ref 42] h (fun r h2 => r = none ∧ (∃ r2, h2 53 = aI 20000 r2 ∧ ∀ j, j < k ^ n → r2 j = nI (stF k n (k ^ n) j)) ∧ Fr [53] h h2) := by
  have hN := ok.le (Nat.le_refl n)
  have hk := ok.1
  have hk5 := ok.2.1
  have hn := ok.2.2.1
  have hn2 := ok.2.2.2.1
  have h0 := ok.pp n
  have hhi := ok.le (i := n - 1) (by omega)
  generalize hQ : (fun (r : Option Value) (h2 : ah) => r = none ∧ (∃ r2, h2 53 = aI 20000 r2 ∧ ∀ j, j < k ^ n → r2 j = nI (stF k n (k ^ n) j)) ∧ Fr [53] h h2) = Q
  have out : ∀ m w (hh : ah) (r2 : Nat → Int32), w + m = k ^ n → hh 53 = aI 20000 r2 → (∀ j, j < stA k n w → r2 j = nI (stF k n w j)) → Fr [53] h hh → V G mX8_leastRound (b0 2) 4 [some (.ref 42), some (.int (nI (stA k n w))), some (.int (nI w))] [] hh Q := by
    intro m
    induction m with
    | zero =>
      intro w hh r2 hw c53 cr cf
      have hwN : w = k ^ n := by omega
      refine tX8_leastRound_4 ((cf 42 (by decide)).trans g42) ((cf 43 (by decide)).trans g43) (fun _ => ?_) (fun z => absurd (nI_le (by omega) (by omega)) z) (fun z => absurd (nI_le (by omega) (by omega)) z) (fun z => absurd (nI_le (by omega) (by omega)) z)
      rw [hwN, stA_N ok] at cr
      rw [← hQ]
      exact ⟨rfl, ⟨r2, c53, cr⟩, cf⟩
    | succ m ih =>
      intro w hh r2 hw c53 cr cf
      have c42 := (cf 42 (by decide)).trans g42
      have hlw := lo_lt (k := k) (n := n) (w := w) (by omega)
      have hA := stA_le ok (w := w + 1) (by omega)
      have ev : lf (nI w).toNatClampNeg = nI (lo k n w) := by rw [nI_clamp (by omega)]; exact hlf w (by omega)
      refine tX8_leastRound_4 c42 ((cf 43 (by decide)).trans g43) (fun z => absurd z (nI_ge (by omega) (by omega))) (fun _ => vp_in_nI (by omega) (by decide)) (fun _ z => ?_) (fun _ z => ?_)
      · rw [ev, nI_eq (by omega) (by omega)] at z
        obtain ⟨sk1, sk2⟩ := st_sk (k := k) (n := n) w 1 (fun v v1 v2 => by rw [show v = w by omega]; exact z)
        rw [nI_1]
        have := ih (w + 1) hh r2 (by omega) c53 (by rw [sk1, sk2]; exact cr) cf
        rw [sk1] at this
        exact this
      · rw [ev, nI_eq (by omega) (by omega)] at z
        refine cX8_leastRound_24 (k := 40) (M_sizeOf ok c42 (w := w) (by omega)) c42 ⟨by decide, by decide⟩ (Nat.le_of_ble_eq_true rfl) ⟨Nat.le_refl _, Nat.le_refl _⟩ (fun r h3 e => ?_)
        obtain ⟨rfl, e⟩ := e; replace e := e.symm; subst e
        refine tX8_leastRound_27 c42 (nI_n0 ok.pos (by omega)) ?_
        rw [hi_eq ok]
        have hs1 : 1 ≤ sz k n w := rz_ge (n - 1) 1
        have hs2 : sz k n w ≤ 1 + (n - 1) := rz_le (n - 1) 1
        have hA1 : stA k n (w + 1) = stA k n w + sz k n w := by
          show stA k n w + (if lo k n w = w then sz k n w else 0) = _
          rw [if_pos z]
        have inn : ∀ q j (h3 : ah) (r3 : Nat → Int32), j + q = sz k n w → h3 53 = aI 20000 r3 → (∀ i, i < stA k n w → r3 i = nI (stF k n w i)) → (∀ i, i < j → r3 (stA k n w + i) = nI (w / k ^ (n - 1 - i) % k)) → Fr [53] h h3 → V G mX8_leastRound (b0 2) 42 [some (.ref 42), some (.int (nI (stA k n w + j))), some (.int (nI w)), some (.int (nI (sz k n w))), some (.int (nI (k ^ (n - 1) / k ^ j))), some (.int (nI j))] [] h3 Q := by
          intro q
          induction q with
          | zero =>
            intro j h3 r3 hj d53 dr dn df
            have hjs : j = sz k n w := by omega
            have kle : nI (sz k n w) ≤ nI j := nI_le (by omega) (by omega)
            refine tX8_leastRound_42 ((df 42 (by decide)).trans g42) d53 (fun _ => ?_) (fun z => absurd kle z) (fun z => absurd kle z) (fun z => absurd kle z) (fun z => absurd kle z) (fun z => absurd kle z)
            rw [nI_1]
            have := ih (w + 1) h3 r3 (by omega) d53 (fun i hi => ?_) df
            · rw [hA1, ← hjs] at this
              exact this
            · show r3 i = nI (if lo k n w = w then (if stA k n w ≤ i ∧ i < stA k n w + sz k n w then w / k ^ (n - 1 - (i - stA k n w)) % k else stF k n w i) else stF k n w i)
              rw [if_pos z]
              by_cases hi2 : i < stA k n w
              · rw [if_neg (by omega)]; exact dr i hi2
              · rw [if_pos (by omega)]
                have := dn (i - stA k n w) (by omega)
                rw [show stA k n w + (i - stA k n w) = i by omega] at this
                exact this
          | succ q ihq =>
            intro j h3 r3 hj d53 dr dn df
            have hun : k ^ (n - 1) / k ^ j = k ^ (n - 1 - j) := Nat.pow_div (by omega) ok.pos
            have hup := ok.pp (n - 1 - j)
            have hul := ok.le (i := n - 1 - j) (by omega)
            have hdl := Nat.div_le_self w (k ^ (n - 1 - j))
            have eu : nI (k ^ (n - 1) / k ^ j) / nI k = nI (k ^ (n - 1) / k ^ (j + 1)) := by
              rw [hun, pk_div (by omega) ok.pos (by omega), ← hun, Nat.div_div_eq_div_mul, ← Nat.pow_succ]
            refine tX8_leastRound_42 ((df 42 (by decide)).trans g42) d53 (fun z => absurd z (nI_ge (by omega) (by omega))) (fun _ => by rw [hun]; exact nI_n0 hup hul) (fun _ => nI_n0 ok.pos (by omega)) (fun _ => vp_in_nI (by omega) (by decide)) (fun _ => nI_n0 ok.pos (by omega)) (fun _ => ?_)
            rw [eu, hun, pk_div (by omega) hup (by omega), pk_rem (by omega) ok.pos (by omega), nI_1, nI_1, nI_clamp (by omega)]
            refine ihq (j + 1) _ _ (by omega) (up_s _ _ _) (fun i hi => ?_) (fun i hi => ?_) (df.up (by decide))
            · rw [pk_un (by omega)]; exact dr i hi
            · by_cases hij : i = j
              · rw [hij, pk_us]
              · rw [pk_un (by omega)]; exact dn i (by omega)
        have := inn (sz k n w) 0 hh r2 (by omega) c53 cr (fun i hi => absurd hi (Nat.not_lt_zero i)) cf
        rw [Nat.pow_zero, Nat.div_one] at this
        exact this
  refine Ct_of (by decide +kernel) (Nat.le_of_ble_eq_true rfl) (tX8_leastRound_0 ?_)
  exact out (k ^ n) 0 h rl (by omega) g53 (fun j hj => absurd hj (Nat.not_lt_zero j)) Fr.rf
theorem M_round_least {rl pl lf : Nat → Int32} (ok : okW k n) (g42 : h 42 = cM (nI k) (nI n) (nI (k ^ n)) ms mx mc mw ml mf mp mg) (g43 : h 43 = aI 20000 lf) (hlf : ∀ w, w < k ^ n → lf w = nI (lo k n w)) (g53 : h 53 = aI 20000 rl) (g54 : h 54 = aI 20000 pl) : Ct G mX8_round 3 0 0 [.ref 42, .int 0] h (fun r h2 => r = some (.int (nI (k ^ n))) ∧ h2 42 = cM (nI k) (nI n) (nI (k ^ n)) ms mx mc 0 ml mf mp mg ∧ (∃ r2, h2 53 = aI 20000 r2 ∧ ∀ j, j < k ^ n → r2 j = nI (stF k n (k ^ n) j)) ∧ h2 54 = aI 20000 (plw (fun i => wv k (stF k n (k ^ n)) (k ^ n) i n) (k ^ n) 0 pl) ∧ Fr [42, 53, 54] h h2) := by
  refine Ct_of (by decide +kernel) (Nat.le_of_ble_eq_true rfl) (tX8_round_0 ?_)
  refine cX8_round_6 (C_in (d := 0) _ _ _) ⟨by decide, by decide⟩ (Nat.le_of_ble_eq_true rfl) ⟨Nat.le_refl _, Nat.le_refl _⟩ (fun r h2 e => ?_)
  obtain ⟨rfl, e⟩ := e; replace e := e.symm; subst e
  have hnb : ¬ ((0 : Int32).toInt64 < (0 : Int64) ∨ (2 : Int64) < (0 : Int32).toInt64) := by decide
  refine tX8_round_9 (fun _ _ z => absurd rfl z) (fun _ _ z => absurd rfl z) (fun _ _ _ => ?_) (fun _ z => absurd z (by decide)) (fun z => absurd ((z01 _).mp z) hnb)
  refine cX8_round_50 (k := 40) (M_leastRound ok g42 g43 hlf g53) g42 ⟨by decide, by decide⟩ (Nat.le_of_ble_eq_true rfl) ⟨Nat.le_refl _, Nat.le_refl _⟩ (fun r h1 e => ?_)
  obtain ⟨rfl, ⟨r2, k53, kr⟩, kf⟩ := e
  refine tX8_round_53 ((kf 42 (by decide)).trans g42) ?_
  refine M_placesV (rr := stF k n (k ^ n)) ok (up_s _ _ _) ((up_n _ _ (by decide)).trans k53) (fun j hj => ⟨kr j hj, stF_lt ok.pos _ j⟩) ((up_n _ _ (by decide)).trans ((kf 54 (by decide)).trans g54)) ?_
  exact ⟨rfl, (up_n _ _ (by decide)).trans (up_s _ _ _), ⟨r2, k53, kr⟩, up_s _ _ _, Fr.up (Fr.up (kf.mono (by decide)) (by decide)) (by decide)⟩
end LM
