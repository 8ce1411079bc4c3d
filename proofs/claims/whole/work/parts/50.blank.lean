/-! blanks; twice: both sides -/
/-- m items from place a on are all letters -/
def ab (k : Nat) (f : Nat → Int32) (a : Nat) : Nat → Bool
  | 0 => true
  | m + 1 => if ¬ (f (a + m) < 0 ∨ nI k ≤ f (a + m)) then ab k f a m else false
theorem ab_iff {k : Nat} {f : Nat → Int32} {a : Nat} : ∀ m, ab k f a m = true ↔ ∀ j, j < m → ¬ (f (a + j) < 0 ∨ nI k ≤ f (a + j))
  | 0 => ⟨fun _ j hj => absurd hj (Nat.not_lt_zero j), fun _ => rfl⟩
  | m + 1 => by
    unfold ab
    by_cases hc : ¬ (f (a + m) < 0 ∨ nI k ≤ f (a + m))
    · rw [if_pos hc, ab_iff m]
      refine ⟨fun q j hj => ?_, fun q j hj => q j (by omega)⟩
      by_cases hjm : j = m
      · rw [hjm]; exact hc
      · exact q j (by omega)
    · rw [if_neg hc]
      exact ⟨fun q => absurd q (by decide), fun q => absurd (q m (by omega)) hc⟩
theorem ab_val {k : Nat} {f : Nat → Int32} {a m : Nat} (hk : k ≤ 20000) (hb : ab k f a m = true) : ∀ j, j < m → f (a + j) = nI (f (a + j)).toNatClampNeg ∧ (f (a + j)).toNatClampNeg < k := fun j hj => by
  obtain ⟨v, hv, e⟩ := p_pick hk ((ab_iff m).mp hb j hj)
  rw [e, nI_clamp (by omega)]
  exact ⟨rfl, hv⟩
theorem ab_cg {k : Nat} {f g : Nat → Int32} {a b : Nat} : ∀ m, (∀ j, j < m → f (a + j) = g (b + j)) → ab k f a m = ab k g b m
  | 0, _ => rfl
  | m + 1, h => by
    unfold ab
    rw [h m (by omega), ab_cg m (fun j hj => h j (by omega))]
section HB
variable {G : gx} {h : ah} {k n t i b : Nat} {fm : Int32}
theorem C_hasBlanks {L : Nat} {it : Nat → Int32} (g3 : h 3 = cW k n) (hL : L ≤ 200) (gt : h (t + 2) = cT i b fm (nI L)) (gi : h (i + 2) = aI 200 it) : Ct G mX5_hasBlanks 1 0 0 [.ref (t + 2)] h (Rv (.int (if ab k it 0 L then 0 else 1)) h) := by
  have key : ∀ m j, j + m = L → (∀ q, q < j → ¬ (it (0 + q) < 0 ∨ nI k ≤ it (0 + q))) → V G mX5_hasBlanks (b0 1) 2 [some (.ref (t + 2)), some (.int (nI j))] [] h (Rv (.int (if ab k it 0 L then 0 else 1)) h) := by
    intro m
    induction m with
    | zero =>
      intro j hj hq
      have hjL : j = L := by omega
      refine tX5_hasBlanks_2 gt gi (fun _ => ⟨?_, rfl⟩) (fun e => absurd (nI_le (by omega) (by omega)) e) (fun e => absurd (nI_le (by omega) (by omega)) e)
      rw [if_pos ((ab_iff L).mpr (by rw [← hjL]; exact hq))]
    | succ m ih =>
      intro j hj hq
      refine tX5_hasBlanks_2 gt gi (fun e => absurd e (nI_ge (by omega) (by omega))) (fun _ => vp_in_nI (by omega) (by decide)) (fun _ => ?_)
      rw [nI_clamp (by omega)]
      refine cX5_hasBlanks_20 (k := 1) (C_isLetter g3 (it j) (d := 0)) g3 ⟨by decide, by decide⟩ (Nat.le_of_ble_eq_true rfl) ⟨Nat.le_refl _, Nat.le_refl _⟩ (fun r h2 e => ?_)
      obtain ⟨rfl, e⟩ := e; replace e := e.symm; subst e
      refine tX5_hasBlanks_23 (fun e => ?_) (fun e => ⟨?_, rfl⟩)
      · rw [nI_1]
        refine ih (j + 1) (by omega) (fun q hq2 => ?_)
        by_cases hqj : q = j
        · rw [hqj, Nat.zero_add]; exact fun z => e ((z01 _).mpr z)
        · exact hq q (by omega)
      · rw [if_neg (fun z => ?_)]
        exact (ab_iff L).mp z j (by omega) (by rw [Nat.zero_add]; exact (z01 _).mp e)
  refine Ct_of (by decide +kernel) (Nat.le_of_ble_eq_true rfl) (tX5_hasBlanks_0 ?_)
  exact key L 0 (by omega) (fun q hq => absurd hq (Nat.not_lt_zero q))
end HB
theorem s10 (c : Bool) : ((if c = true then (0 : Int32) else 1) = 0) ↔ c = true := by cases c <;> decide
section MN
variable {G : gx} {h : ah} {k n s mx mc mw ml mf mp mg : Int32} {fs sz it : Nat → Int32}
theorem M_noLetters {K t L : Nat} {a : Int32} (hK : 1 ≤ K ∧ K ≤ 20000) (g42 : h 42 = cM (nI K) n a s mx mc mw ml mf mp mg) (g55 : h 55 = aI 4 fs) (g56 : h 56 = aI 4 sz) (g57 : h 57 = aI 800 it) (ht : t < 4) (hL : L ≤ 200) (hneg : 0 ≤ fs t ↔ ¬ fs t = -1) (hsz : sz t = nI L) : Ct G mX8_noLetters 1 0 0 [.ref 42, .int (nI t)] h (fun r h2 => if fs t = -1 then r = some (.int (-11)) ∧ h2 = va_up h 42 (cM (nI K) n a s mx mc mw 1 mf mp mg) else r = some (.int (if ab K it (200 * t) L then 0 else -3)) ∧ h2 = h) := by
  have ct : (nI t).toNatClampNeg = t := nI_clamp (by omega)
  refine Ct_of (by decide +kernel) (Nat.le_of_ble_eq_true rfl) (tX8_noLetters_0 g42 g55 (vp_in_nI ht (by decide)) (fun e => ?_) (fun e => ?_))
  · rw [ct] at e
    simp only [if_neg (hneg.mp e)]
    have key : ∀ m j, j + m = L → V G mX8_noLetters (b0 1) 19 [some (.ref 42), some (.int (nI t)), some (.int (if ab K it (200 * t) j then 1 else 0)), some (.int (nI j))] [] h (Rv (.int (if ab K it (200 * t) L then 0 else -3)) h) := by
      intro m
      induction m with
      | zero =>
        intro j hj
        have hjL : j = L := by omega
        refine tX8_noLetters_19 g42 g56 g57 (vp_in_nI ht (by decide)) (fun _ e => ⟨?_, rfl⟩) (fun _ e => ⟨?_, rfl⟩) (fun e => absurd (by rw [ct, hsz]; exact nI_le (by omega) (by omega)) e) (fun e => absurd (by rw [ct, hsz]; exact nI_le (by omega) (by omega)) e) (fun e => absurd (by rw [ct, hsz]; exact nI_le (by omega) (by omega)) e)
        · rw [ri_0] at e
          rw [← hjL, e]
          rfl
        · rw [ri_0] at e
          rw [← hjL, show ab K it (200 * t) j = true by cases hb : ab K it (200 * t) j <;> simp_all]
          rfl
      | succ m ih =>
        intro j hj
        have ih2 := ih (j + 1) (by omega)
        refine tX8_noLetters_19 g42 g56 g57 (vp_in_nI ht (by decide)) (fun e => absurd e (by rw [ct, hsz]; exact nI_ge (by omega) (by omega))) (fun e => absurd e (by rw [ct, hsz]; exact nI_ge (by omega) (by omega))) (fun _ e => ?_) (fun _ _ => by rw [ix_200]; exact vp_in_nI (by omega) (by decide)) (fun _ e => ?_)
        · rw [ri_0] at e
          have hs : ab K it (200 * t) (j + 1) = false := by unfold ab; rw [e]; split <;> rfl
          rw [hs] at ih2
          rw [nI_1]
          exact ih2
        · rw [ri_0] at e
          have hs : ab K it (200 * t) j = true := by cases hb : ab K it (200 * t) j <;> simp_all
          rw [ix_200, nI_clamp (by omega)]
          refine cX8_noLetters_54 (C_in (d := 0) _ _ _) ⟨by decide, by decide⟩ (Nat.le_of_ble_eq_true rfl) ⟨Nat.le_refl _, Nat.le_refl _⟩ (fun r h2 e => ?_)
          obtain ⟨rfl, e⟩ := e; replace e := e.symm; subst e
          have hx := in_w0 hK.2 (it (200 * t + j))
          refine tX8_noLetters_57 (fun e => ?_) (fun e => ?_)
          · have hs2 : ab K it (200 * t) (j + 1) = false := by unfold ab; rw [if_neg (fun q => q (hx.mp ((z01 _).mp e)))]
            rw [hs2] at ih2
            rw [nI_1]
            exact ih2
          · have hs2 : ab K it (200 * t) (j + 1) = true := by unfold ab; rw [if_pos (fun q => e ((z01 _).mpr (hx.mpr q)))]; exact hs
            rw [hs2] at ih2
            rw [nI_1]
            exact ih2
    exact key L 0 (by omega)
  · rw [ct] at e
    have hfm : fs t = -1 := Decidable.not_not.mp (fun q => e (hneg.mpr q))
    refine cX8_noLetters_11 (k := 40) (M_met g42 1 (d := 0)) g42 ⟨by decide, by decide⟩ (Nat.le_of_ble_eq_true rfl) ⟨Nat.le_refl _, Nat.le_refl _⟩ (fun r h2 e => ?_)
    obtain ⟨rfl, e⟩ := e; replace e := e.symm; subst e
    refine tX8_noLetters_14 ?_
    rw [if_pos hfm]
    exact ⟨by rw [show (-10 : Int32) - 1 = -11 by decide], rfl⟩
end MN
/-- the number of the word that begins at place i of a row that is read round -/
def wv (k : Nat) (v : Nat → Nat) (L i : Nat) : Nat → Nat
  | 0 => 0
  | j + 1 => wv k v L i j * k + v ((i + j) % L)
theorem wv_lt {k L i : Nat} {v : Nat → Nat} (hL : 0 < L) (hv : ∀ j, j < L → v j < k) : ∀ j, wv k v L i j < k ^ j
  | 0 => Nat.one_pos
  | j + 1 => by
    rw [Nat.pow_succ]
    exact dm_lt (wv_lt hL hv j) (hv _ (Nat.mod_lt _ hL))
theorem wv_eq {k L i i2 : Nat} {v : Nat → Nat} (hL : 0 < L) (hv : ∀ j, j < L → v j < k) : ∀ j, wv k v L i j = wv k v L i2 j ↔ ∀ a, a < j → v ((i + a) % L) = v ((i2 + a) % L)
  | 0 => ⟨fun _ a ha => absurd ha (Nat.not_lt_zero a), fun _ => rfl⟩
  | j + 1 => by
    constructor
    · intro e a ha
      have h1 := hv _ (Nat.mod_lt (i + j) hL)
      have h2 := hv _ (Nat.mod_lt (i2 + j) hL)
      have u1 := dm_u (q := wv k v L i j) h1 rfl
      have u2 := dm_u (q := wv k v L i2 j) h2 rfl
      have e2 : wv k v L i j * k + v ((i + j) % L) = wv k v L i2 j * k + v ((i2 + j) % L) := e
      rw [e2] at u1
      by_cases haj : a = j
      · rw [haj]; exact u1.2.symm.trans u2.2
      · exact (wv_eq hL hv j).mp (u1.1.symm.trans u2.1) a (by omega)
    · intro q
      show wv k v L i j * k + v ((i + j) % L) = wv k v L i2 j * k + v ((i2 + j) % L)
      rw [(wv_eq hL hv j).mpr (fun a ha => q a (by omega)), q j (by omega)]
/-- the first place that is like an earlier one; none: -1 -/
def isR (S : Nat → Nat → Prop) (L : Nat) (r : Int32) : Prop := (∃ i, i < L ∧ r = nI i ∧ (∃ j, j < i ∧ S j i) ∧ ∀ i2, i2 < i → ∀ j, j < i2 → ¬ S j i2) ∨ (r = -1 ∧ ∀ i, i < L → ∀ j, j < i → ¬ S j i)
theorem isR_u {S : Nat → Nat → Prop} {L : Nat} {r r2 : Int32} (h1 : isR S L r) (h2 : isR S L r2) : r = r2 := by
  rcases h1 with ⟨i, hi, e, ⟨j, hj, hs⟩, hn⟩ | ⟨e, hn⟩ <;> rcases h2 with ⟨i2, hi2, e2, ⟨j2, hj2, hs2⟩, hn2⟩ | ⟨e2, hn2⟩
  · rcases Nat.lt_trichotomy i i2 with q | q | q
    · exact absurd hs (hn2 i q j hj)
    · rw [e, e2, q]
    · exact absurd hs2 (hn i2 q j2 hj2)
  · exact absurd hs (hn2 i hi j hj)
  · exact absurd hs2 (hn i2 hi2 j2 hj2)
  · rw [e, e2]
theorem rd_next {p N : Nat} (h0 : 0 < N) : (p + 1) % N = if p % N + 1 < N then p % N + 1 else 0 := by
  have hm := Nat.mod_lt p h0
  rw [Nat.add_mod]
  by_cases h1 : N = 1
  · rw [h1, if_neg (by omega)]; omega
  · rw [Nat.mod_eq_of_lt (show 1 < N by omega)]
    by_cases hc2 : p % N + 1 < N
    · rw [if_pos hc2, Nat.mod_eq_of_lt hc2]
    · rw [if_neg hc2, show p % N + 1 = N by omega, Nat.mod_self]
section TW
variable {G : gx} {h : ah} {k n t i b : Nat} {fm : Int32}
theorem C_wordAt {L x : Nat} {it : Nat → Int32} {v : Nat → Nat} (ok : okW k n) (g3 : h 3 = cW k n) (hL : L ≤ 200) (gt : h (t + 2) = cT i b fm (nI L)) (gi : h (i + 2) = aI 200 it) (hv : ∀ j, j < L → it j = nI (v j) ∧ v j < k) (hx : x < L) {d : Nat} : Ct G mX5_wordAt d 0 0 [.ref (t + 2), .int (nI x)] h (Rv (.int (nI (wv k v L x n))) h) := by
  have hn2 := ok.2.2.2.1
  have h0 : 0 < L := by omega
  have key : ∀ m j, j + m = n → V G mX5_wordAt (b0 d) 7 [some (.ref (t + 2)), some (.int (nI x)), some (.int (nI (wv k v L x j))), some (.int (nI ((x + j) % L))), some (.int (nI j))] [] h (Rv (.int (nI (wv k v L x n))) h) := by
    intro m
    induction m with
    | zero =>
      intro j hj
      refine tX5_wordAt_7 gt g3 gi (fun _ => ⟨by rw [show j = n by omega], rfl⟩) (fun e => absurd (nI_le (by omega) (by omega)) e) (fun e => absurd (nI_le (by omega) (by omega)) e) (fun e => absurd (nI_le (by omega) (by omega)) e)
    | succ m ih =>
      intro j hj
      have hm := Nat.mod_lt (x + j) h0
      have ih2 := ih (j + 1) (by omega)
      have hs := rd_next (p := x + j) h0
      have e1 : (nI (wv k v L x j) * nI k) + it (nI ((x + j) % L)).toNatClampNeg = nI (wv k v L x (j + 1)) := by
        rw [nI_clamp (by omega), (hv _ hm).1, pk_mul, nI_add]
        rfl
      refine tX5_wordAt_7 gt g3 gi (fun e => absurd e (nI_ge (by omega) (by omega))) (fun _ => vp_in_nI (by omega) (by decide)) (fun _ e => ?_) (fun _ e => ?_)
      · rw [nI_1, nI_leI (by omega) (by omega)] at e
        rw [if_neg (by omega)] at hs
        rw [e1, nI_1]
        rw [← Nat.add_assoc, hs] at ih2
        exact ih2
      · rw [nI_1, nI_leI (by omega) (by omega)] at e
        rw [if_pos (by omega)] at hs
        rw [e1, nI_1, nI_1]
        rw [← Nat.add_assoc, hs] at ih2
        exact ih2
  refine Ct_of (by decide +kernel) (Nat.le_of_ble_eq_true rfl) (tX5_wordAt_0 ?_)
  have := key n 0 (by omega)
  rw [show (x + 0) % L = x from Nat.mod_eq_of_lt hx] at this
  exact this
theorem C_firstRepeated {L : Nat} {it bb : Nat → Int32} {v : Nat → Nat} (ok : okW k n) (g3 : h 3 = cW k n) (hL : L ≤ 200) (gt : h (t + 2) = cT i b fm (nI L)) (gi : h (i + 2) = aI 200 it) (gb : h (b + 2) = aI 200 bb) (hbt : b ≠ t) (hbi : b ≠ i) (hb1 : b ≠ 1) (hv : ∀ j, j < L → it j = nI (v j) ∧ v j < k) : Ct G mX5_firstRepeated 1 0 0 [.ref (t + 2)] h (fun r h2 => (∃ x, r = some (.int x) ∧ isR (fun j i => wv k v L i n = wv k v L j n) L x) ∧ (∃ b2, h2 (b + 2) = aI 200 b2) ∧ Fr [b + 2] h h2) := by
  have hN := ok.le (Nat.le_refl n)
  generalize hQ : (fun (r : Option Value) (h2 : ah) => (∃ x, r = some (.int x) ∧ isR (fun j i => wv k v L i n = wv k v L j n) L x) ∧ (∃ b2, h2 (b + 2) = aI 200 b2) ∧ Fr [b + 2] h h2) = Q
  have key : ∀ m j (hh : ah) (b2 : Nat → Int32), j + m = L → hh (b + 2) = aI 200 b2 → (∀ q, q < j → b2 q = nI (wv k v L q n)) → (∀ i2, i2 < j → ∀ q, q < i2 → ¬ wv k v L i2 n = wv k v L q n) → Fr [b + 2] h hh → V G mX5_firstRepeated (b0 1) 2 [some (.ref (t + 2)), some (.int (nI j))] [] hh Q := by
    intro m
    induction m with
    | zero =>
      intro j hh b2 hj kb kq kn kf
      have gt2 := (kf (t + 2) (by simp; omega)).trans gt
      refine tX5_firstRepeated_2 gt2 (fun _ => ?_) (fun e => absurd (nI_le (by omega) (by omega)) e)
      rw [← hQ]
      exact ⟨⟨_, rfl, Or.inr ⟨rfl, fun i hi => kn i (by omega)⟩⟩, ⟨_, kb⟩, kf⟩
    | succ m ih =>
      intro j hh b2 hj kb kq kn kf
      have gt2 := (kf (t + 2) (by simp; omega)).trans gt
      have gi2 := (kf (i + 2) (by simp; omega)).trans gi
      have g32 := (kf 3 (by simp; omega)).trans g3
      refine tX5_firstRepeated_2 gt2 (fun e => absurd e (nI_ge (by omega) (by omega))) (fun _ => ?_)
      refine cX5_firstRepeated_17 (k := t) (C_wordAt (x := j) ok g32 hL gt2 gi2 hv (by omega) (d := 0)) gt2 ⟨by decide, by decide⟩ (Nat.le_of_ble_eq_true rfl) ⟨Nat.le_refl _, Nat.le_refl _⟩ (fun r h2 e => ?_)
      obtain ⟨rfl, e⟩ := e; replace e := e.symm; subst e
      refine tX5_firstRepeated_20 kb (vp_in_nI (by omega) (by decide)) ?_
      rw [nI_clamp (by omega)]
      have hwl : ∀ q, wv k v L q n ≤ 20000 := fun q => Nat.le_of_lt (Nat.lt_of_lt_of_le (wv_lt (by omega) (fun j hj => (hv j hj).2) n) hN)
      have key2 : ∀ m2 q, q + m2 = j → (∀ q2, q2 < q → ¬ wv k v L j n = wv k v L q2 n) → V G mX5_firstRepeated (b0 1) 23 [some (.ref (t + 2)), some (.int (nI j)), some (.int (nI q))] [] (va_up hh (b + 2) (aI 200 (upd b2 j (nI (wv k v L j n))))) Q := by
        intro m2
        induction m2 with
        | zero =>
          intro q hq kq2
          refine tX5_firstRepeated_23 ((up_n _ _ (by omega)).trans gt2) (up_s _ _ _) (fun _ => ?_) (fun e => absurd (nI_le (by omega) (by omega)) e) (fun e => absurd (nI_le (by omega) (by omega)) e) (fun e => absurd (nI_le (by omega) (by omega)) e) (fun e => absurd (nI_le (by omega) (by omega)) e)
          rw [nI_1]
          refine ih (j + 1) _ _ (by omega) (up_s _ _ _) (fun q2 hq2 => ?_) (fun i2 hi2 q2 hq2 => ?_) (kf.up (by simp))
          · by_cases hc : q2 = j
            · rw [hc, pk_us]
            · rw [pk_un hc]; exact kq q2 (by omega)
          · by_cases hc : i2 = j
            · rw [hc]; exact kq2 q2 (by omega)
            · exact kn i2 (by omega) q2 hq2
        | succ m2 ih2 =>
          intro q hq kq2
          have eq1 : upd b2 j (nI (wv k v L j n)) (nI q).toNatClampNeg = nI (wv k v L q n) := by rw [nI_clamp (by omega), pk_un (by omega), kq q (by omega)]
          have eq2 : upd b2 j (nI (wv k v L j n)) (nI j).toNatClampNeg = nI (wv k v L j n) := by rw [nI_clamp (by omega), pk_us]
          have l1 := hwl q
          have l2 := hwl j
          refine tX5_firstRepeated_23 ((up_n _ _ (by omega)).trans gt2) (up_s _ _ _) (fun e => absurd e (nI_ge (by omega) (by omega))) (fun _ => vp_in_nI (by omega) (by decide)) (fun _ => vp_in_nI (by omega) (by decide)) (fun _ e => ?_) (fun _ e => ?_)
          · rw [eq1, eq2] at e
            rw [nI_1]
            refine ih2 (q + 1) (by omega) (fun q2 hq2 => ?_)
            by_cases hc : q2 = q
            · rw [hc]; exact fun z => e (by rw [z])
            · exact kq2 q2 (by omega)
          · rw [eq1, eq2, nI_eq (by omega) (by omega)] at e
            rw [← hQ]
            exact ⟨⟨_, rfl, Or.inl ⟨j, by omega, rfl, ⟨q, by omega, e.symm⟩, kn⟩⟩, ⟨_, up_s _ _ _⟩, kf.up (by simp)⟩
      exact key2 j 0 (by omega) (fun q2 hq2 => absurd hq2 (Nat.not_lt_zero q2))
  refine Ct_of (by decide +kernel) (Nat.le_of_ble_eq_true rfl) (tX5_firstRepeated_0 ?_)
  exact key L 0 h bb (by omega) gb (fun q hq => absurd hq (Nat.not_lt_zero q)) (fun q hq => absurd hq (Nat.not_lt_zero q)) Fr.rf
end TW
