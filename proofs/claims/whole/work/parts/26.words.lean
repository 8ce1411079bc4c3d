/-! CONTRACTS of WordWheel.Words, of Math.min -/
abbrev b0 (d : Nat) : bg := (d, 0, 0, 0, 0)
theorem kx_min : Cond.code Lib.Math.min.name Lib.Math.min.code 2 (some .int) ∈ gw := tb_in (List.mem_of_getElem? (i := 315) (by decide +kernel)) rfl
theorem V_min {G : gx} {y : my} {d mc ms c0 z0 pc : Nat} {L : List (Option Value)} {S : List Value} {h : ah} {Q : Option Value → ah → Prop} {index : Nat} {x z : Int32} (hd : decode y.2.1 pc = .ok (.invokestatic index, 3)) (hw : Cond.methodLink y.1.cls index yJ9_min_7cf53 ∈ gw) (hdd : 1 ≤ d ∧ d ≤ 9) (hrm : (S.map fun v => v.category).sum ≤ 8) (kk : V G y (d, mc, ms, c0, z0) (pc + 3) L (.int (if z < x then z else x) :: S) h Q) : V G y (d, mc, ms, c0, z0) pc L (.int z :: .int x :: S) h Q :=
  fun p e s m args below meth c H locs ls C c1 c2 hP hS hl => by
    have hr2 : ((S.map (cv G)).map fun v => v.category).sum ≤ 8 := by
      rw [List.map_map]
      exact Nat.le_trans (Nat.le_of_eq (congrArg List.sum (List.map_congr_left (fun v _ => cv_cat G v)))) hrm
    refine va_mmin C.1 C.2.1 (by rw [C.2.2.2.1]; exact hl.1.symm) C.own (C.ts hw) (C.ts kt_J9_min_7cf53) (C.ts kj_J9) (C.ts kx_min) hdd.1 ?_ c1 c2 hd (kk p e s m args below meth c H locs ls C c1 c2 hP hS hl)
    show _ + 13 ≤ r_lo d
    unfold r_lo
    split <;> omega
theorem nI_min {a b : Nat} (ha : a < 2 ^ 31) (hb : b < 2 ^ 31) : (if nI b < nI a then nI b else nI a) = nI (min a b) := by
  by_cases hc : b < a
  · rw [if_pos ((nI_ltI hb ha).mpr hc), Nat.min_eq_right (by omega)]
  · rw [if_neg (fun z => hc ((nI_ltI hb ha).mp z)), Nat.min_eq_left (by omega)]
section CW
variable {G : gx} {h : ah} {k n : Nat}
theorem C_has (g3 : h 3 = cW k n) (x : Int32) {d : Nat} : Ct G mX6_has d 0 0 [.ref 3, .int x] h (Rv (.int (if x < 0 ∨ nI (k ^ n) ≤ x then 0 else 1)) h) :=
  Ct_of (by decide +kernel) (Nat.le_of_ble_eq_true rfl) (tX6_has_0 g3 (fun e => ⟨by rw [if_pos (Or.inl e)], rfl⟩) (fun _ e => ⟨by rw [if_pos (Or.inr e)], rfl⟩) (fun e1 e2 => ⟨by rw [if_neg (fun z => z.elim e1 e2)], rfl⟩))
theorem C_isLetter (g3 : h 3 = cW k n) (x : Int32) {d : Nat} : Ct G mX6_isLetter d 0 0 [.ref 3, .int x] h (Rv (.int (if x < 0 ∨ nI k ≤ x then 0 else 1)) h) :=
  Ct_of (by decide +kernel) (Nat.le_of_ble_eq_true rfl) (tX6_isLetter_0 g3 (fun e => ⟨by rw [if_pos (Or.inl e)], rfl⟩) (fun _ e => ⟨by rw [if_pos (Or.inr e)], rfl⟩) (fun e1 e2 => ⟨by rw [if_neg (fun z => z.elim e1 e2)], rfl⟩))
theorem C_turnedOnce (ok : okW k n) (g3 : h 3 = cW k n) {w : Nat} (hw : w < k ^ n) {d : Nat} : Ct G mX6_turnedOnce d 0 0 [.ref 3, .int (nI w)] h (Rv (.int (nI (tn k n w))) h) := by
  have hp := ok.pp (n - 1)
  have hl := ok.le (i := n - 1) (by omega)
  have hl2 := ok.le (Nat.le_refl n)
  refine Ct_of (by decide +kernel) (Nat.le_of_ble_eq_true rfl) (tX6_turnedOnce_0 g3 (nI_n0 hp hl) (nI_n0 hp hl) ⟨?_, rfl⟩)
  rw [pk_rem (by omega) hp (by omega), pk_div (by omega) hp (by omega), pk_mul, nI_add]
  rfl
theorem C_leastOf (ok : okW k n) (g3 : h 3 = cW k n) {w : Nat} (hw : w < k ^ n) : Ct G mX6_leastOf 1 0 0 [.ref 3, .int (nI w)] h (Rv (.int (nI (lo k n w))) h) := by
  have hl2 := ok.le (Nat.le_refl n)
  have hk := ok.pos
  have hn := ok.2.2.1
  have hn2 := ok.2.2.2.1
  have key : ∀ m t, t + 1 + m = n → V G mX6_leastOf (b0 1) 7 [some (.ref 3), some (.int (nI w)), some (.int (nI (lm k n w t))), some (.int (nI (ti k n t w))), some (.int (nI (t + 1)))] [] h (Rv (.int (nI (lo k n w))) h) := by
    intro m
    induction m with
    | zero =>
      intro t ht
      refine tX6_leastOf_7 g3 (fun _ => ⟨?_, rfl⟩) (fun e => absurd (nI_le (by omega) (by omega)) e)
      rw [lo, show n - 1 = t by omega]
    | succ m ih =>
      intro t ht
      have hti := ti_lt hk hn hw t
      have hti2 := ti_lt hk hn hw (t + 1)
      have hlm := lm_lt (k := k) (n := n) hw t
      refine tX6_leastOf_7 g3 (fun e => absurd e (nI_ge (by omega) (by omega))) (fun _ => ?_)
      refine cX6_leastOf_18 (C_turnedOnce ok g3 hti (d := 0)) g3 ⟨by decide, by decide⟩ (by decide) ⟨Nat.le_refl _, Nat.le_refl _⟩ (fun r h2 e => ?_)
      obtain ⟨rfl, rfl⟩ := e
      refine tX6_leastOf_21 ?_
      refine V_min dX6_leastOf_24 km_X6_36 ⟨by decide, by decide⟩ (by decide) ?_
      have hmin : (if nI (tn k n (ti k n t w)) < nI (lm k n w t) then nI (tn k n (ti k n t w)) else nI (lm k n w t)) = nI (lm k n w (t + 1)) := nI_min (by omega) (by have : tn k n (ti k n t w) < k ^ n := hti2; omega)
      rw [hmin]
      refine tX6_leastOf_27 ?_
      rw [nI_1]
      exact ih (t + 1) (by omega)
  refine Ct_of (by decide +kernel) (Nat.le_of_ble_eq_true rfl) (tX6_leastOf_0 ?_)
  exact key (n - 1) 0 (by omega)
theorem C_stepsToLeast (ok : okW k n) (g3 : h 3 = cW k n) {w : Nat} (hw : w < k ^ n) : Ct G mX6_stepsToLeast 1 0 0 [.ref 3, .int (nI w)] h (Rv (.int (nI (ls k n w (n - 1)))) h) := by
  have hl2 := ok.le (Nat.le_refl n)
  have hk := ok.pos
  have hn := ok.2.2.1
  have hn2 := ok.2.2.2.1
  have key : ∀ m t, t + 1 + m = n → V G mX6_stepsToLeast (b0 1) 10 [some (.ref 3), some (.int (nI w)), some (.int (nI (lm k n w t))), some (.int (nI (ls k n w t))), some (.int (nI (ti k n t w))), some (.int (nI (t + 1)))] [] h (Rv (.int (nI (ls k n w (n - 1)))) h) := by
    intro m
    induction m with
    | zero =>
      intro t ht
      refine tX6_stepsToLeast_10 g3 (fun _ => ⟨?_, rfl⟩) (fun e => absurd (nI_le (by omega) (by omega)) e)
      rw [show n - 1 = t by omega]
    | succ m ih =>
      intro t ht
      have hti := ti_lt hk hn hw t
      have hti2 : tn k n (ti k n t w) < k ^ n := ti_lt hk hn hw (t + 1)
      have hlm := lm_lt (k := k) (n := n) hw t
      refine tX6_stepsToLeast_10 g3 (fun e => absurd e (nI_ge (by omega) (by omega))) (fun _ => ?_)
      refine cX6_stepsToLeast_22 (C_turnedOnce ok g3 hti (d := 0)) g3 ⟨by decide, by decide⟩ (by decide) ⟨Nat.le_refl _, Nat.le_refl _⟩ (fun r h2 e => ?_)
      obtain ⟨rfl, rfl⟩ := e
      refine tX6_stepsToLeast_25 (fun e => ?_) (fun e => ?_)
      · have e2 := (nI_leI (by omega) (by omega)).mp e
        rw [nI_1]
        have h1 : lm k n w (t + 1) = lm k n w t := Nat.min_eq_left e2
        have h2 : ls k n w (t + 1) = ls k n w t := if_neg (Nat.not_lt.mpr e2)
        have := ih (t + 1) (by omega)
        rw [h1, h2] at this
        exact this
      · have e2 : ¬ lm k n w t ≤ tn k n (ti k n t w) := fun z => e ((nI_leI (by omega) (by omega)).mpr z)
        rw [nI_1]
        have h1 : lm k n w (t + 1) = tn k n (ti k n t w) := Nat.min_eq_right (Nat.le_of_lt (Nat.not_le.mp e2))
        have h2 : ls k n w (t + 1) = t + 1 := if_pos (Nat.not_le.mp e2)
        have := ih (t + 1) (by omega)
        rw [h1, h2] at this
        exact this
  refine Ct_of (by decide +kernel) (Nat.le_of_ble_eq_true rfl) (tX6_stepsToLeast_0 ?_)
  exact key (n - 1) 0 (by omega)
/-- the ring's size, sought from s on -/
def rz (k n w : Nat) : Nat → Nat → Nat
  | 0, s => s
  | f + 1, s => if ti k n s w = w then s else rz k n w f (s + 1)
theorem C_ringSize (ok : okW k n) (g3 : h 3 = cW k n) {w : Nat} (hw : w < k ^ n) : Ct G mX6_ringSize 1 0 0 [.ref 3, .int (nI w)] h (Rv (.int (nI (rz k n w (n - 1) 1))) h) := by
  have hl2 := ok.le (Nat.le_refl n)
  have hk := ok.pos
  have hn := ok.2.2.1
  have hn2 := ok.2.2.2.1
  have key : ∀ m t, t + m = n → V G mX6_ringSize (b0 1) 8 [some (.ref 3), some (.int (nI w)), some (.int (nI (ti k n t w))), some (.int (nI t))] [] h (Rv (.int (nI (rz k n w m t))) h) := by
    intro m
    induction m with
    | zero =>
      intro t ht
      exact tX6_ringSize_8 g3 (fun _ => ⟨rfl, rfl⟩) (fun e => absurd (nI_le (by omega) (by omega)) e) (fun e => absurd (nI_le (by omega) (by omega)) e)
    | succ m ih =>
      intro t ht
      have hti := ti_lt hk hn hw t
      refine tX6_ringSize_8 g3 (fun e => absurd e (nI_ge (by omega) (by omega))) (fun _ e => ⟨?_, rfl⟩) (fun _ e => ?_)
      · have e2 := (nI_eq (by omega) (by omega)).mp e
        rw [rz, if_pos e2]
      · have e2 : ¬ ti k n t w = w := fun z => e (by rw [z])
        rw [rz, if_neg e2]
        refine cX6_ringSize_23 (C_turnedOnce ok g3 hti (d := 0)) g3 ⟨by decide, by decide⟩ (by decide) ⟨Nat.le_refl _, Nat.le_refl _⟩ (fun r h2 e => ?_)
        obtain ⟨rfl, rfl⟩ := e
        refine tX6_ringSize_26 ?_
        rw [nI_1]
        exact ih (t + 1) (by omega)
  refine Ct_of (by decide +kernel) (Nat.le_of_ble_eq_true rfl) (tX6_ringSize_0 ?_)
  refine cX6_ringSize_2 (C_turnedOnce ok g3 hw (d := 0)) g3 ⟨by decide, by decide⟩ (by decide) ⟨Nat.le_refl _, Nat.le_refl _⟩ (fun r h2 e => ?_)
  obtain ⟨rfl, rfl⟩ := e
  exact tX6_ringSize_5 (key (n - 1) 1 (by omega))
/-- read backward -/
def bk (k : Nat) : Nat → Nat → Nat → Nat
  | 0, _, a => a
  | i + 1, r, a => bk k i (r / k) (a * k + r % k)
theorem C_backward (ok : okW k n) (g3 : h 3 = cW k n) {w : Nat} (hw : w < k ^ n) {d : Nat} : Ct G mX6_backward d 0 0 [.ref 3, .int (nI w)] h (Rv (.int (nI (bk k n w 0))) h) := by
  have hl2 := ok.le (Nat.le_refl n)
  have hk := ok.pos
  have hk5 := ok.2.1
  have hn2 := ok.2.2.2.1
  have key : ∀ m t r a, t + m = n → r ≤ 20000 → V G mX6_backward (b0 d) 7 [some (.ref 3), some (.int (nI w)), some (.int (nI r)), some (.int (nI a)), some (.int (nI t))] [] h (Rv (.int (nI (bk k m r a))) h) := by
    intro m
    induction m with
    | zero =>
      intro t r a ht hr
      exact tX6_backward_7 g3 (fun _ => ⟨rfl, rfl⟩) (fun e => absurd (nI_le (by omega) (by omega)) e) (fun e => absurd (nI_le (by omega) (by omega)) e) (fun e => absurd (nI_le (by omega) (by omega)) e)
    | succ m ih =>
      intro t r a ht hr
      refine tX6_backward_7 g3 (fun e => absurd e (nI_ge (by omega) (by omega))) (fun _ => nI_n0 hk (by omega)) (fun _ => nI_n0 hk (by omega)) (fun _ => ?_)
      rw [pk_rem (by omega) hk (by omega), pk_div (by omega) hk (by omega), pk_mul, nI_add, nI_1]
      exact ih (t + 1) (r / k) (a * k + r % k) (by omega) (Nat.le_trans (Nat.div_le_self r k) hr)
  refine Ct_of (by decide +kernel) (Nat.le_of_ble_eq_true rfl) (tX6_backward_0 ?_)
  exact key n 0 w 0 (by omega) (by omega)
theorem C_differ (ok : okW k n) (g3 : h 3 = cW k n) {a c : Nat} (ha : a < k ^ n) (hc : c < k ^ n) {d : Nat} : Ct G mX6_differInFirst d 0 0 [.ref 3, .int (nI a), .int (nI c)] h (Rv (.int (if a ≠ c ∧ a % k ^ (n - 1) = c % k ^ (n - 1) then 1 else 0)) h) := by
  have hp := ok.pp (n - 1)
  have hl := ok.le (i := n - 1) (by omega)
  have hl2 := ok.le (Nat.le_refl n)
  have hma := Nat.mod_le a (k ^ (n - 1))
  have hmc := Nat.mod_le c (k ^ (n - 1))
  refine Ct_of (by decide +kernel) (Nat.le_of_ble_eq_true rfl) (tX6_differInFirst_0 g3 (fun e => ⟨?_, rfl⟩) (fun _ => nI_n0 hp hl) (fun _ => nI_n0 hp hl) (fun e1 e2 => ⟨?_, rfl⟩) (fun e1 e2 => ⟨?_, rfl⟩))
  · have e2 := (nI_eq (by omega) (by omega)).mp e
    rw [if_neg (fun z => z.1 e2)]
  · rw [pk_rem (by omega) hp (by omega), pk_rem (by omega) hp (by omega)] at e2
    rw [if_neg (fun z => e2 (by rw [z.2]))]
  · rw [pk_rem (by omega) hp (by omega), pk_rem (by omega) hp (by omega)] at e2
    rw [if_pos ⟨fun z => e1 (by rw [z]), (nI_eq (by omega) (by omega)).mp e2⟩]
theorem C_turned (ok : okW k n) {f : Nat → Int32} (g3 : h 3 = cW k n) (g4 : h 4 = (0, .inr (15, .inl f))) (hf : isP k n f) {w t : Nat} (hw : w < k ^ n) (ht : t ≤ 1000) {d : Nat} : Ct G mX6_turned d 0 0 [.ref 3, .int (nI w), .int (nI t)] h (Rv (.int (nI (ti k n (t % n) w))) h) := by
  have hl2 := ok.le (Nat.le_refl n)
  have hk := ok.pos
  have hn := ok.2.2.1
  have hn2 := ok.2.2.2.1
  have hr : t % n < n := Nat.mod_lt t hn
  have e1 : nI t - nI t / nI n * nI n = nI (t % n) := pk_rem (by omega) hn (by omega)
  have e2 : nI n - nI (t % n) = nI (n - t % n) := pk_sub (Nat.le_of_lt hr)
  have e3 : f (nI n - (nI t - nI t / nI n * nI n)).toNatClampNeg = nI (k ^ (n - t % n)) := by rw [e1, e2, nI_clamp (by omega), hf _ (by omega)]
  have e4 : f (nI t - nI t / nI n * nI n).toNatClampNeg = nI (k ^ (t % n)) := by rw [e1, nI_clamp (by omega), hf _ (by omega)]
  have hp := ok.pp (n - t % n)
  have hl := ok.le (i := n - t % n) (by omega)
  refine Ct_of (by decide +kernel) (Nat.le_of_ble_eq_true rfl) (tX6_turned_0 g3 g4 (nI_n0 hn (by omega)) (by rw [e1, e2]; exact vp_in_nI (by omega) (by omega)) (by rw [e3]; exact nI_n0 hp hl) (by rw [e1]; exact vp_in_nI (by omega) (by omega)) (by rw [e3]; exact nI_n0 hp hl) ⟨?_, rfl⟩)
  rw [e3, e4, pk_rem (by omega) hp (by omega), pk_div (by omega) hp (by omega), pk_mul, nI_add, ti_eq hk hw _ (Nat.le_of_lt hr)]
end CW
