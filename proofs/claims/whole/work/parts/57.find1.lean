/-! find: bits -/
def tbt (y : Int64) (j : Nat) : Bool := (nb y).testBit j
theorem tbt_or (a b : Int64) (j : Nat) : tbt (a ||| b) j = (tbt a j || tbt b j) := by
  unfold tbt
  rw [nb_or, Nat.testBit_or]
theorem tbt_and (a b : Int64) (j : Nat) : tbt (a &&& b) j = (tbt a j && tbt b j) := by
  unfold tbt
  rw [nb_and, Nat.testBit_and]
theorem tbt_shr (y : Int64) (j : Nat) : tbt ((y.toUInt64 >>> ((1 : Int32).toInt64.toUInt64 &&& Int64.toUInt64 63)).toInt64) j = tbt y (j + 1) := by
  unfold tbt
  rw [nb_shr _ _ 1 (by decide +kernel), Nat.testBit_div_two_pow, Nat.add_comm]
theorem bit_tab : ∀ x, x < 64 → nb ((1 : Int64) <<< ((nI x).toInt64 &&& 63)) = 2 ^ x := by decide +kernel
theorem tbt_bit {x : Nat} (hx : x < 64) (j : Nat) : tbt ((1 : Int64) <<< ((nI x).toInt64 &&& 63)) j = decide (x = j) := by
  unfold tbt
  rw [bit_tab x hx, Nat.testBit_two_pow]
theorem tbt_0 (j : Nat) : tbt 0 j = false := by
  unfold tbt
  rw [show nb (0 : Int64) = 0 by decide +kernel, Nat.zero_testBit]
/-- how many of the first m are true -/
def cs (S : Nat → Bool) : Nat → Nat
  | 0 => 0
  | m + 1 => cs S m + (S m).toNat
theorem cs_le (S : Nat → Bool) : ∀ m, cs S m ≤ m
  | 0 => Nat.le_refl _
  | m + 1 => by
    have := cs_le S m
    have h2 : (S m).toNat ≤ 1 := Bool.toNat_le _
    show cs S m + (S m).toNat ≤ m + 1
    omega
theorem cs_cg {S S2 : Nat → Bool} : ∀ m, (∀ j, j < m → S j = S2 j) → cs S m = cs S2 m
  | 0, _ => rfl
  | m + 1, h => by
    show cs S m + (S m).toNat = cs S2 m + (S2 m).toNat
    rw [cs_cg m (fun j hj => h j (by omega)), h m (by omega)]
theorem bcn_cs {y : Int64} {S : Nat → Bool} {n : Nat} (h : ∀ j, tbt y j = (decide (j < n) && S j)) (hn : n ≤ 64) : bcn (nb y) 64 = cs S n := by
  have key : ∀ m, bcn (nb y) m = cs S (min m n) := by
    intro m
    induction m with
    | zero => rw [Nat.zero_min]; rfl
    | succ m ih =>
      have e : nb y / 2 ^ m % 2 = (tbt y m).toNat := (Nat.toNat_testBit (nb y) m).symm
      show bcn (nb y) m + nb y / 2 ^ m % 2 = _
      rw [ih, e, h m]
      by_cases hc : m < n
      · rw [Nat.min_eq_left (by omega), Nat.min_eq_left (by omega), decide_eq_true hc, Bool.true_and]
        rfl
      · rw [Nat.min_eq_right (by omega), Nat.min_eq_right (by omega), decide_eq_false hc, Bool.false_and]
        rfl
  rw [key 64, Nat.min_eq_right hn]
def isL (k : Nat) (v : Int32) : Bool := decide (¬ (v < 0 ∨ nI k ≤ v))
/-- item b is a letter other than u -/
def so1 (k : Nat) (it : Nat → Int32) (i u b : Nat) : Bool := isL k (it (i + b)) && !decide (nI u = it (i + b))
section FL
variable {G : gx} {h : ah} {k n : Nat}
theorem C_fillL {p : Nat} {f : Nat → Int64} (y : Int64) (gp : h (p + 2) = aJ 5 f) {d : Nat} : Ct G mJ7_fill_d0a16 d 0 0 [.ref (p + 2), .long y] h (fun r h2 => r = none ∧ (∃ f2, h2 (p + 2) = aJ 5 f2 ∧ ∀ j, j < 5 → f2 j = y) ∧ Fr [p + 2] h h2) := by
  have key : ∀ m j (hh : ah) (f2 : Nat → Int64), j + m = 5 → hh (p + 2) = aJ 5 f2 → (∀ q, q < j → f2 q = y) → Fr [p + 2] h hh → V G mJ7_fill_d0a16 (b0 d) 6 [some (.ref (p + 2)), some (.long y), none, some (.int (nI j)), some (.int (nI 5))] [] hh (fun r h2 => r = none ∧ (∃ f2, h2 (p + 2) = aJ 5 f2 ∧ ∀ j, j < 5 → f2 j = y) ∧ Fr [p + 2] h h2) := by
    intro m
    induction m with
    | zero =>
      intro j hh f2 hj kp kq kf
      exact tJ7_fill_d0a16_6 kp (fun _ => ⟨rfl, ⟨f2, kp, fun q hq => kq q (by omega)⟩, kf⟩) (fun e => absurd (nI_le (by omega) (by omega)) e) (fun e => absurd (nI_le (by omega) (by omega)) e)
    | succ m ih =>
      intro j hh f2 hj kp kq kf
      refine tJ7_fill_d0a16_6 kp (fun e => absurd e (nI_ge (by omega) (by omega))) (fun _ => vp_in_nI (by omega) (by decide)) (fun _ => ?_)
      rw [nI_1, nI_clamp (by omega)]
      refine ih (j + 1) _ _ (by omega) (up_s _ _ _) (fun q hq => ?_) (kf.up (by simp))
      by_cases hc : q = j
      · rw [hc, pk_uLs]
      · rw [pk_uLn hc]; exact kq q (by omega)
  refine Ct_of (by decide +kernel) (Nat.le_of_ble_eq_true rfl) (V_sub (by exact (And.intro rfl (And.intro rfl True.intro))) (tJ7_fill_d0a16_0 gp ?_))
  exact key 5 0 h f (by omega) gp (fun q hq => absurd hq (Nat.not_lt_zero q)) Fr.rf
theorem C_noteSlips {kd fm : Int32} {c i m : Nat} {it : Nat → Int32} {sl : Nat → Int64} (ok : okW k n) (g3 : h 3 = cW k n) (g17 : h 17 = cO kd fm) (g21 : h 21 = aJ 5 sl) (gi : h (c + 2) = aI 200 it) (hc : c ≠ 19) (him : i + m ≤ 200) (hm : m ≤ 40) : Ct G mX4_noteSlips 1 0 0 [.ref 17, .ref (c + 2), .int (nI i), .int (nI m)] h (fun r h2 => r = none ∧ (∃ s2, h2 21 = aJ 5 s2 ∧ ∀ u, u < k → ∀ b, tbt (s2 u) b = (decide (b < m) && so1 k it i u b)) ∧ Fr [21] h h2) := by
  have hk5 := ok.2.1
  generalize hQ : (fun (r : Option Value) (h2 : ah) => r = none ∧ (∃ s2, h2 21 = aJ 5 s2 ∧ ∀ u, u < k → ∀ b, tbt (s2 u) b = (decide (b < m) && so1 k it i u b)) ∧ Fr [21] h h2) = Q
  have out : ∀ q j (hh : ah) (s2 : Nat → Int64), j + q = m → hh 21 = aJ 5 s2 → (∀ u, u < k → ∀ b, tbt (s2 u) b = (decide (b < j) && so1 k it i u b)) → Fr [21] h hh → V G mX4_noteSlips (b0 1) 11 [some (.ref 17), some (.ref (c + 2)), some (.int (nI i)), some (.int (nI m)), some (.int (nI j))] [] hh Q := by
    intro q
    induction q with
    | zero =>
      intro j hh s2 hj k21 kb kf
      have gi2 := (kf (c + 2) (by simp; omega)).trans gi
      refine tX4_noteSlips_11 gi2 (fun _ => ?_) (fun e => absurd (nI_le (by omega) (by omega)) e) (fun e => absurd (nI_le (by omega) (by omega)) e)
      rw [← hQ]
      exact ⟨rfl, ⟨s2, k21, by rw [show m = j by omega]; exact kb⟩, kf⟩
    | succ q ih =>
      intro j hh s2 hj k21 kb kf
      have gi2 := (kf (c + 2) (by simp; omega)).trans gi
      refine tX4_noteSlips_11 gi2 (fun e => absurd e (nI_ge (by omega) (by omega))) (fun _ => by rw [nI_add]; exact vp_in_nI (by omega) (by decide)) (fun _ => ?_)
      rw [nI_add, nI_clamp (by omega)]
      by_cases hl : it (i + j) < 0 ∨ nI k ≤ it (i + j)
      · refine tX4_noteSlips_28 ((kf 17 (by decide)).trans g17) ((kf 3 (by decide)).trans g3) (fun e => absurd e (nI_ge (a := 0) ok.pos (by omega))) (fun _ => ?_)
        refine cX4_noteSlips_46 (k := 1) (C_isLetter ((kf 3 (by decide)).trans g3) (it (i + j)) (d := 0)) ((kf 3 (by decide)).trans g3) ⟨by decide, by decide⟩ (Nat.le_of_ble_eq_true rfl) ⟨Nat.le_refl _, Nat.le_refl _⟩ (fun r h2 e => ?_)
        obtain ⟨rfl, e⟩ := e; replace e := e.symm; subst e
        refine tX4_noteSlips_49 ((kf 17 (by decide)).trans g17) k21 (fun _ => ?_) (fun e => absurd ((z01 _).mpr hl) e) (fun e => absurd ((z01 _).mpr hl) e) (fun e => absurd ((z01 _).mpr hl) e) (fun e => absurd ((z01 _).mpr hl) e)
        rw [nI_1]
        refine ih (j + 1) hh s2 (by omega) k21 (fun u hu b => ?_) kf
        rw [kb u hu b]
        by_cases hbj : b = j
        · rw [hbj, decide_eq_false (by omega), so1, isL, decide_eq_false (p := ¬ (it (i + j) < 0 ∨ nI k ≤ it (i + j))) (fun z => z hl)]
          simp
        · rw [show decide (b < j + 1) = decide (b < j) by apply decide_eq_decide.mpr; omega]
      · have inn : ∀ q2 v (h3 : ah) (s3 : Nat → Int64), v + q2 = k → h3 21 = aJ 5 s3 → (∀ u, u < k → ∀ b, tbt (s3 u) b = (decide (b < if u < v then j + 1 else j) && so1 k it i u b)) → Fr [21] h h3 → V G mX4_noteSlips (b0 1) 28 [some (.ref 17), some (.ref (c + 2)), some (.int (nI i)), some (.int (nI m)), some (.int (nI j)), some (.int (it (i + j))), some (.int (nI v))] [] h3 Q := by
          intro q2
          induction q2 with
          | zero =>
            intro v h3 s3 hv c21 cb cf
            refine tX4_noteSlips_28 ((cf 17 (by decide)).trans g17) ((cf 3 (by decide)).trans g3) (fun _ => ?_) (fun e => absurd (nI_le (by omega) (by omega)) e)
            rw [nI_1]
            refine ih (j + 1) h3 s3 (by omega) c21 (fun u hu b => ?_) cf
            rw [cb u hu b, if_pos (by omega)]
          | succ q2 ih2 =>
            intro v h3 s3 hv c21 cb cf
            refine tX4_noteSlips_28 ((cf 17 (by decide)).trans g17) ((cf 3 (by decide)).trans g3) (fun e => absurd e (nI_ge (by omega) (by omega))) (fun _ => ?_)
            refine cX4_noteSlips_46 (k := 1) (C_isLetter ((cf 3 (by decide)).trans g3) (it (i + j)) (d := 0)) ((cf 3 (by decide)).trans g3) ⟨by decide, by decide⟩ (Nat.le_of_ble_eq_true rfl) ⟨Nat.le_refl _, Nat.le_refl _⟩ (fun r h2 e => ?_)
            obtain ⟨rfl, e⟩ := e; replace e := e.symm; subst e
            have hsj : so1 k it i v j = !decide (nI v = it (i + j)) := by rw [so1, isL, decide_eq_true hl, Bool.true_and]
            refine tX4_noteSlips_49 ((cf 17 (by decide)).trans g17) c21 (fun e => absurd ((z01 _).mp e) hl) (fun _ e => ?_) (fun _ _ => vp_in_nI (by omega) (by decide)) (fun _ _ => vp_in_nI (by omega) (by decide)) (fun _ e => ?_)
            · rw [nI_1]
              refine ih2 (v + 1) h3 s3 (by omega) c21 (fun u hu b => ?_) cf
              rw [cb u hu b]
              by_cases huv : u = v
              · subst huv
                rw [if_neg (by omega), if_pos (by omega)]
                by_cases hbj : b = j
                · rw [hbj, hsj, e]
                  simp
                · rw [show decide (b < j + 1) = decide (b < j) by apply decide_eq_decide.mpr; omega]
              · rw [show (if u < v + 1 then j + 1 else j) = (if u < v then j + 1 else j) from ite_congr (propext (by omega)) (fun _ => rfl) (fun _ => rfl)]
            · rw [nI_1, nI_clamp (by omega)]
              refine ih2 (v + 1) _ _ (by omega) (up_s _ _ _) (fun u hu b => ?_) (cf.up (by decide))
              by_cases huv : u = v
              · subst huv
                rw [pk_uLs, tbt_or, cb u hu b, tbt_bit (by omega), if_neg (by omega), if_pos (by omega)]
                by_cases hbj : b = j
                · rw [hbj, hsj, decide_eq_false e]
                  simp
                · rw [show decide (b < j + 1) = decide (b < j) by apply decide_eq_decide.mpr; omega, decide_eq_false (p := j = b) (fun z => hbj z.symm), Bool.or_false]
              · rw [pk_uLn huv, cb u hu b, show (if u < v + 1 then j + 1 else j) = (if u < v then j + 1 else j) from ite_congr (propext (by omega)) (fun _ => rfl) (fun _ => rfl)]
        exact inn k 0 hh s2 (by omega) k21 (fun u hu b => by rw [kb u hu b, if_neg (by omega)]) kf
  refine Ct_of (by decide +kernel) (Nat.le_of_ble_eq_true rfl) (tX4_noteSlips_0 g17 ?_)
  refine cX4_noteSlips_5 (C_fillL (p := 19) 0 g21 (d := 0)) ⟨by decide, by decide⟩ (Nat.le_of_ble_eq_true rfl) ⟨Nat.le_refl _, Nat.le_refl _⟩ (fun r h2 e => ?_)
  obtain ⟨rfl, ⟨f2, k21, kz⟩, kf⟩ := e
  refine tX4_noteSlips_8 ?_
  refine out m 0 h2 f2 (by omega) k21 (fun u hu b => ?_) kf
  rw [kz u (by omega), tbt_0, decide_eq_false (by omega), Bool.false_and]
theorem C_noteFirst {kd fm : Int32} {m : Nat} {rl : Nat → Int32} {rr : Nat → Nat} {sl : Nat → Int64} (ok : okW k n) (g3 : h 3 = cW k n) (g17 : h 17 = cO kd fm) (g18 : h 18 = aB 20000 rl) (hr : ∀ j, j < k ^ n → rl j = nI (rr j) ∧ rr j < k) (g22 : h 22 = aJ 5 sl) (hm1 : 1 ≤ m) (hm : m ≤ 40) : Ct G mX4_noteFirstPlaces 1 0 0 [.ref 17, .int (nI m)] h (fun r h2 => r = some (.int (nI ((m - 1) % k ^ n))) ∧ (∃ s2, h2 22 = aJ 5 s2 ∧ ∀ u, u < k → ∀ b, tbt (s2 u) b = (decide (1 ≤ b ∧ b < m) && decide (rr ((b - 1) % k ^ n) = u))) ∧ Fr [22] h h2) := by
  have hk5 := ok.2.1
  have hN := ok.le (Nat.le_refl n)
  have h0 := ok.pp n
  generalize hQ : (fun (r : Option Value) (h2 : ah) => r = some (.int (nI ((m - 1) % k ^ n))) ∧ (∃ s2, h2 22 = aJ 5 s2 ∧ ∀ u, u < k → ∀ b, tbt (s2 u) b = (decide (1 ≤ b ∧ b < m) && decide (rr ((b - 1) % k ^ n) = u))) ∧ Fr [22] h h2) = Q
  have key : ∀ q j (hh : ah) (s2 : Nat → Int64), (j + 1) + q = m → hh 22 = aJ 5 s2 → (∀ u, u < k → ∀ b, tbt (s2 u) b = (decide (1 ≤ b ∧ b < j + 1) && decide (rr ((b - 1) % k ^ n) = u))) → Fr [22] h hh → V G mX4_noteFirstPlaces (b0 1) 12 [some (.ref 17), some (.int (nI m)), some (.int (nI (j % k ^ n))), some (.int (nI (j + 1)))] [] hh Q := by
    intro q
    induction q with
    | zero =>
      intro j hh s2 hj k22 kb kf
      refine tX4_noteFirstPlaces_12 ((kf 17 (by decide)).trans g17) ((kf 18 (by decide)).trans g18) k22 ((kf 3 (by decide)).trans g3) (fun _ => ?_) (fun e => absurd (nI_le (by omega) (by omega)) e) (fun e => absurd (nI_le (by omega) (by omega)) e) (fun e => absurd (nI_le (by omega) (by omega)) e) (fun e => absurd (nI_le (by omega) (by omega)) e) (fun e => absurd (nI_le (by omega) (by omega)) e)
      rw [← hQ]
      exact ⟨by rw [show m - 1 = j by omega], ⟨s2, k22, by rw [show m = j + 1 by omega]; exact kb⟩, kf⟩
    | succ q ih =>
      intro j hh s2 hj k22 kb kf
      have hjm := Nat.mod_lt j h0
      obtain ⟨hr1, hr2⟩ := hr _ hjm
      have cl : (nI (j % k ^ n)).toNatClampNeg = j % k ^ n := nI_clamp (by omega)
      have nb2 : ∀ u, u < k → ∀ b, tbt (vp_updL s2 (rr (j % k ^ n)) (s2 (rr (j % k ^ n)) ||| ((1 : Int64) <<< ((nI (j + 1)).toInt64 &&& 63))) u) b = (decide (1 ≤ b ∧ b < j + 1 + 1) && decide (rr ((b - 1) % k ^ n) = u)) := by
        intro u hu b
        by_cases huv : u = rr (j % k ^ n)
        · subst huv
          rw [pk_uLs, tbt_or, kb _ hr2 b, tbt_bit (by omega)]
          by_cases hbj : b = j + 1
          · rw [hbj, show j + 1 - 1 = j by omega, decide_eq_true (p := 1 ≤ j + 1 ∧ j + 1 < j + 1 + 1) (by omega), decide_eq_true rfl, decide_eq_true rfl]
            simp
          · rw [show decide (1 ≤ b ∧ b < j + 1 + 1) = decide (1 ≤ b ∧ b < j + 1) by apply decide_eq_decide.mpr; omega, decide_eq_false (p := j + 1 = b) (fun z => hbj z.symm), Bool.or_false]
        · rw [pk_uLn huv, kb u hu b]
          by_cases hbj : b = j + 1
          · rw [hbj, show j + 1 - 1 = j by omega, decide_eq_false (p := rr (j % k ^ n) = u) (fun z => huv z.symm), Bool.and_false, Bool.and_false]
          · rw [show decide (1 ≤ b ∧ b < j + 1 + 1) = decide (1 ≤ b ∧ b < j + 1) by apply decide_eq_decide.mpr; omega]
      have hs := rd_next (p := j) h0
      refine tX4_noteFirstPlaces_12 ((kf 17 (by decide)).trans g17) ((kf 18 (by decide)).trans g18) k22 ((kf 3 (by decide)).trans g3) (fun e => absurd e (nI_ge (by omega) (by omega))) (fun _ => vp_in_nI (by omega) (by decide)) (fun _ => by rw [cl, hr1]; exact vp_in_nI (by omega) (by decide)) (fun _ => by rw [cl, hr1]; exact vp_in_nI (by omega) (by decide)) (fun _ e => ?_) (fun _ e => ?_)
      · rw [nI_1, nI_leI (by omega) (by omega)] at e
        rw [if_neg (by omega)] at hs
        rw [cl, hr1, nI_clamp (n := rr (j % k ^ n)) (by omega), nI_1]
        have := ih (j + 1) _ _ (by omega) (up_s hh 22 _) nb2 (kf.up (by decide))
        rw [hs] at this
        exact this
      · rw [nI_1, nI_leI (by omega) (by omega)] at e
        rw [if_pos (by omega)] at hs
        rw [cl, hr1, nI_clamp (n := rr (j % k ^ n)) (by omega), nI_1, nI_1]
        have := ih (j + 1) _ _ (by omega) (up_s hh 22 _) nb2 (kf.up (by decide))
        rw [hs] at this
        exact this
  refine Ct_of (by decide +kernel) (Nat.le_of_ble_eq_true rfl) (tX4_noteFirstPlaces_0 g17 ?_)
  refine cX4_noteFirstPlaces_5 (C_fillL (p := 20) 0 g22 (d := 0)) ⟨by decide, by decide⟩ (Nat.le_of_ble_eq_true rfl) ⟨Nat.le_refl _, Nat.le_refl _⟩ (fun r h2 e => ?_)
  obtain ⟨rfl, ⟨f2, k22, kz⟩, kf⟩ := e
  refine tX4_noteFirstPlaces_8 ?_
  have := key (m - 1) 0 h2 f2 (by omega) k22 (fun u hu b => by
    rw [kz u (by omega), tbt_0, decide_eq_false (by omega), Bool.false_and]) kf
  rw [show 0 % k ^ n = 0 from Nat.zero_mod _] at this
  exact this
end FL
