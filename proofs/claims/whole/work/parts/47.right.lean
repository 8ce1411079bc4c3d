/-! right: both sides -/
def okT (k n : Nat) (T : Nat → Nat) : Prop := ∀ w, w < k ^ n → T w < k ^ n ∧ T w / k = w % k ^ (n - 1)
def inj (N : Nat) (T : Nat → Nat) : Prop := ∀ a b, a < N → b < N → T a = T b → a = b
def rb (k f : Nat) : Nat → Nat → Bool
  | 0, _ => true
  | m + 1, d => if k % d = 0 ∧ f % d = 0 then false else rb k f m (d + 1)
def rt (k f : Nat) : Bool := rb k f (k - 1) 2
theorem pow_n1 {k n : Nat} (hn : 1 ≤ n) : k ^ n = k ^ (n - 1) * k := by rw [← Nat.pow_succ, show (n - 1).succ = n by omega]
theorem ld_ok {k n s : Nat} {F : Nat → Nat} (hk : 0 < k) (hn : 1 ≤ n) : okT k n (ld k n F s) := fun w _ => by
  have hp : 0 < k ^ (n - 1) := Nat.pow_pos hk
  have h1 : vs k F n w s % k < k := Nat.mod_lt _ hk
  have h2 : w % k ^ (n - 1) < k ^ (n - 1) := Nat.mod_lt _ hp
  refine ⟨?_, ?_⟩
  · rw [pow_n1 hn]
    exact dm_lt h2 h1
  · exact (dm_u h1 rfl).1
theorem ld_cg {k n s w : Nat} {F : Nat → Nat} (hk : 0 < k) (hn : 1 ≤ n) (hs : s < k) (hw : w < k ^ n) : ld k n F s w = w % k ^ (n - 1) * k + (cg k F s n (n - 1) (w % k ^ (n - 1)) + F 0 * (w / k ^ (n - 1))) % k := by
  rw [ld, ← cg_vs hk hs hw]
  obtain ⟨m, rfl⟩ : ∃ m, n = m + 1 := ⟨n - 1, by omega⟩
  show _ + (cg k F s (m + 1) m (w % k ^ m) + F (m + 1 - 1 - m) * (w / k ^ m)) % k = _
  rw [show m + 1 - 1 - m = 0 by omega]
  rfl
abbrev rs (k f c : Nat) : Prop := (∀ a, a < k → ∀ b, b < k → (c + f * a) % k = (c + f * b) % k → a = b) ↔ rt k f = true
theorem rt_s2 : ∀ f, f < 2 → ∀ c, c < 2 → rs 2 f c := by decide +kernel
theorem rt_s3 : ∀ f, f < 3 → ∀ c, c < 3 → rs 3 f c := by decide +kernel
theorem rt_s4 : ∀ f, f < 4 → ∀ c, c < 4 → rs 4 f c := by decide +kernel
theorem rt_s5 : ∀ f, f < 5 → ∀ c, c < 5 → rs 5 f c := by decide +kernel
theorem rt_small : ∀ k, k < 6 → 2 ≤ k → ∀ f, f < k → ∀ c, c < k → rs k f c
  | 2, _, _, f, hf, c, hc => rt_s2 f hf c hc
  | 3, _, _, f, hf, c, hc => rt_s3 f hf c hc
  | 4, _, _, f, hf, c, hc => rt_s4 f hf c hc
  | 5, _, _, f, hf, c, hc => rt_s5 f hf c hc
theorem ld_inj {k n s : Nat} {F : Nat → Nat} (ok : okW k n) (hF : okF k F) (hs : s < k) : inj (k ^ n) (ld k n F s) ↔ rt k (F 0) = true := by
  have hk := ok.pos
  have hn := ok.2.2.1
  have hp : 0 < k ^ (n - 1) := Nat.pow_pos hk
  have hN : k ^ n = k ^ (n - 1) * k := pow_n1 hn
  constructor
  · intro hi
    refine (rt_small k (by have := ok.2.1; omega) ok.1 (F 0) (hF 0 (by decide)) (cg k F s n (n - 1) 0) (cg_lt hk hs _ _)).mp (fun a ha b hb hab => ?_)
    have w1 : ∀ c, c < k → c * k ^ (n - 1) < k ^ n := fun c hc => by rw [hN, Nat.mul_comm (k ^ (n - 1))]; exact Nat.mul_lt_mul_of_pos_right hc hp
    have w2 : ∀ c, c < k → ld k n F s (c * k ^ (n - 1)) = (cg k F s n (n - 1) 0 + F 0 * c) % k := fun c hc => by
      rw [ld_cg hk hn hs (w1 c hc), Nat.mul_mod_left, Nat.zero_mul, Nat.zero_add, Nat.mul_div_cancel _ hp]
    have h3 := hi _ _ (w1 a ha) (w1 b hb) (by rw [w2 a ha, w2 b hb, hab])
    exact Nat.eq_of_mul_eq_mul_right hp h3
  · intro hr a b ha hb hab
    rw [ld_cg hk hn hs ha, ld_cg hk hn hs hb] at hab
    have l1 : (cg k F s n (n - 1) (a % k ^ (n - 1)) + F 0 * (a / k ^ (n - 1))) % k < k := Nat.mod_lt _ hk
    have l2 : (cg k F s n (n - 1) (b % k ^ (n - 1)) + F 0 * (b / k ^ (n - 1))) % k < k := Nat.mod_lt _ hk
    have u1 := dm_u (q := a % k ^ (n - 1)) l1 rfl
    have u2 := dm_u (q := b % k ^ (n - 1)) l2 rfl
    rw [hab] at u1
    have e1 : a % k ^ (n - 1) = b % k ^ (n - 1) := u1.1.symm.trans u2.1
    have e2 := u1.2.symm.trans u2.2
    rw [e1] at e2
    have da : a / k ^ (n - 1) < k := by rw [Nat.div_lt_iff_lt_mul hp, Nat.mul_comm, ← hN]; exact ha
    have db : b / k ^ (n - 1) < k := by rw [Nat.div_lt_iff_lt_mul hp, Nat.mul_comm, ← hN]; exact hb
    have e3 := (rt_small k (by have := ok.2.1; omega) ok.1 (F 0) (hF 0 (by decide)) _ (cg_lt hk hs (n - 1) (b % k ^ (n - 1)))).mpr hr _ da _ db e2
    rw [← Nat.div_add_mod a (k ^ (n - 1)), ← Nat.div_add_mod b (k ^ (n - 1)), e1, e3]
section RT
variable {G : gx} {h : ah} {k n s : Nat} {F T : Nat → Nat} {a e s1 s2 c s3 ms mx mc mw ml mf mp mg : Int32} {ff tt sn : Nat → Int32}
theorem C_isRight (ok : okW k n) (hF : okF k F) (g3 : h 3 = cW k n) (g9 : h 9 = cR a e s1 s2 c s3) (g10 : h 10 = aI 14 ff) (hff : isF F ff) {d : Nat} : Ct G mX2_isRight d 0 0 [.ref 9] h (Rv (.int (if rt k (F 0) then 1 else 0)) h) := by
  have hk5 := ok.2.1
  have h0 : ff (0 : Int32).toNatClampNeg = nI (F 0) := hff 0 (by decide)
  have hF0 := hF 0 (by decide)
  have key : ∀ m q, q + m = k + 1 → 2 ≤ q → V G mX2_isRight (b0 d) 2 [some (.ref 9), some (.int (nI q))] [] h (Rv (.int (if rb k (F 0) m q then 1 else 0)) h) := by
    intro m
    induction m with
    | zero =>
      intro q hq h2
      exact tX2_isRight_2 g9 g3 g10 (fun _ => ⟨rfl, rfl⟩) (fun z => absurd (nI_lt (by omega) (by omega)) z) (fun z => absurd (nI_lt (by omega) (by omega)) z) (fun z => absurd (nI_lt (by omega) (by omega)) z) (fun z => absurd (nI_lt (by omega) (by omega)) z) (fun z => absurd (nI_lt (by omega) (by omega)) z) (fun z => absurd (nI_lt (by omega) (by omega)) z)
    | succ m ih =>
      intro q hq h2
      have r1 : nI k - nI k / nI q * nI q = nI (k % q) := pk_rem (by omega) (by omega) (by omega)
      have r2 : ff (0 : Int32).toNatClampNeg - ff (0 : Int32).toNatClampNeg / nI q * nI q = nI (F 0 % q) := by rw [h0]; exact pk_rem (by omega) (by omega) (by omega)
      have m1 := Nat.mod_le k q
      have m2 := Nat.mod_le (F 0) q
      have q0 : ¬ nI q = 0 := nI_n0 (by omega) (by omega)
      have nx : ¬ (k % q = 0 ∧ F 0 % q = 0) → V G mX2_isRight (b0 d) 2 [some (.ref 9), some (.int (nI q + 1))] [] h (Rv (.int (if rb k (F 0) (m + 1) q then 1 else 0)) h) := fun z => by
        rw [rb, if_neg z, nI_1]
        exact ih (q + 1) (by omega) (by omega)
      refine tX2_isRight_2 g9 g3 g10 (fun z => absurd (nI_le (by omega) (by omega)) (Int32.not_le.mpr z)) (fun _ => q0) (fun _ z => nx (fun y => z ?_)) (fun _ _ => vp_in_nI (n := 0) (by decide) (by decide)) (fun _ _ => q0) (fun _ _ z => nx (fun y => z ?_)) (fun _ z1 z2 => ⟨?_, rfl⟩)
      · rw [r1, y.1]; rfl
      · rw [r2, y.2]; rfl
      · rw [r1] at z1
        rw [r2] at z2
        have y1 : k % q = 0 := (nI_eq (b := 0) (by omega) (by decide)).mp (z1.trans (by decide))
        have y2 : F 0 % q = 0 := (nI_eq (b := 0) (by omega) (by decide)).mp (z2.trans (by decide))
        have y3 : rb k (F 0) (m + 1) q = false := if_pos ⟨y1, y2⟩
        rw [y3]
        rfl
  exact Ct_of (by decide +kernel) (Nat.le_of_ble_eq_true rfl) (tX2_isRight_0 (key (k - 1) 2 (by have := ok.1; omega) (Nat.le_refl _)))
theorem vnb0 : vp_nar .boolean (0 : Int32) = 0 := by decide
theorem vnb1 : vp_nar .boolean (1 : Int32) = 1 := by decide
theorem M_isRight {R : Bool} (ok : okW k n) (hT : ∀ w, w < k ^ n → T w < k ^ n) (hR : inj (k ^ n) T ↔ R = true) (g42 : h 42 = cM (nI k) (nI n) (nI (k ^ n)) ms mx mc mw ml mf mp mg) (g47 : h 47 = aI 20000 tt) (htt : ∀ w, w < k ^ n → tt w = nI (T w)) (g50 : h 50 = aZ 20000 sn) {d : Nat} : Ct G mX8_isRight d 0 0 [.ref 42] h (fun r h2 => r = some (.int (if R then 1 else 0)) ∧ (∃ s2, h2 50 = aZ 20000 s2) ∧ Fr [50] h h2) := by
  have hl := ok.le (Nat.le_refl n)
  generalize hQ : (fun (r : Option Value) (h2 : ah) => r = some (.int (if R then 1 else 0)) ∧ (∃ s2, h2 50 = aZ 20000 s2) ∧ Fr [50] h h2) = Q
  have two : ∀ m w (h1 : ah) (sn1 : Nat → Int32) (x : Int32), w + m = k ^ n → h1 50 = aZ 20000 sn1 → Fr [50] h h1 → (∀ u, u < k ^ n → (sn1 u = 1 ∧ ∃ j, j < w ∧ T j = u) ∨ (sn1 u = 0 ∧ ∀ j, j < w → T j ≠ u)) → ((x = 1 ∧ inj w T) ∨ (x = 0 ∧ ¬ inj w T)) → V G mX8_isRight (b0 d) 27 [some (.ref 42), some (.int x), some (.int (nI w))] [] h1 Q := by
    intro m
    induction m with
    | zero =>
      intro w h1 sn1 x hw a50 hfr hs hx
      have hwn : w = k ^ n := by omega
      subst hwn
      refine tX8_isRight_27 ((hfr 42 (by decide)).trans g42) ((hfr 47 (by decide)).trans g47) a50 (fun _ => ?_) (fun _ => by rcases hx with ⟨rfl, -⟩ | ⟨rfl, -⟩ <;> rfl) (fun z => absurd (nI_le (by omega) (by omega)) z) (fun z => absurd (nI_le (by omega) (by omega)) z) (fun z => absurd (nI_le (by omega) (by omega)) z) (fun z => absurd (nI_le (by omega) (by omega)) z) (fun z => absurd (nI_le (by omega) (by omega)) z) (fun z => absurd (nI_le (by omega) (by omega)) z) (fun z => absurd (nI_le (by omega) (by omega)) z) (fun z => absurd (nI_le (by omega) (by omega)) z) (fun z => absurd (nI_le (by omega) (by omega)) z) (fun z => absurd (nI_le (by omega) (by omega)) z) (fun z => absurd (nI_le (by omega) (by omega)) z)
      subst hQ
      refine ⟨?_, ⟨sn1, a50⟩, hfr⟩
      rcases hx with ⟨rfl, q⟩ | ⟨rfl, q⟩
      · rw [hR.mp q]; rfl
      · have : R = false := by
          cases R with
          | true => exact absurd (hR.mpr rfl) q
          | false => rfl
        rw [this]; rfl
    | succ m ih =>
      intro w h1 sn1 x hw a50 hfr hs hx
      have hwn : w < k ^ n := by omega
      have hTw := hT w hwn
      have e1 : tt (nI w).toNatClampNeg = nI (T w) := by rw [nI_clamp (by omega), htt w hwn]
      have e2 : (tt (nI w).toNatClampNeg).toNatClampNeg = T w := by rw [e1, nI_clamp (by omega)]
      have i1 : vp_in (nI w) 20000 := vp_in_nI (by omega) (by decide)
      have i2 : vp_in (tt (nI w).toNatClampNeg) 20000 := by rw [e1]; exact vp_in_nI (by omega) (by decide)
      have nx : ∀ y : Int32, ((y = 1 ∧ inj (w + 1) T) ∨ (y = 0 ∧ ¬ inj (w + 1) T)) → V G mX8_isRight (b0 d) 27 [some (.ref 42), some (.int y), some (.int (nI w + 1))] [] (va_up h1 50 (2, .inr (20000, .inl (upd sn1 (tt (nI w).toNatClampNeg).toNatClampNeg (vp_nar .boolean (1 : Int32)))))) Q := fun y hy => by
        rw [e2, vnb1, nI_1]
        refine ih (w + 1) _ (upd sn1 (T w) 1) y (by omega) rfl (hfr.up (by decide)) (fun u hu => ?_) hy
        by_cases hc : u = T w
        · subst hc
          exact Or.inl ⟨pk_us, w, by omega, rfl⟩
        · rw [pk_un hc]
          rcases hs u hu with ⟨q1, j, q2, q3⟩ | ⟨q1, q2⟩
          · exact Or.inl ⟨q1, j, by omega, q3⟩
          · refine Or.inr ⟨q1, fun j hj => ?_⟩
            rcases Nat.lt_or_ge j w with z | z
            · exact q2 j z
            · rw [show j = w by omega]; exact fun z => hc z.symm
      have no : ¬ inj w T → ¬ inj (w + 1) T := fun q z => q (fun a b ha hb => z a b (by omega) (by omega))
      have hS := hs (T w) hTw
      refine tX8_isRight_27 ((hfr 42 (by decide)).trans g42) ((hfr 47 (by decide)).trans g47) a50 (fun z => absurd z (nI_ge (by omega) (by omega))) (fun z => absurd z (nI_ge (by omega) (by omega))) (fun _ _ => i1) (fun _ _ => i2) (fun _ z => nx 0 (Or.inr ⟨rfl, ?_⟩)) (fun _ _ => i1) (fun _ _ => i2) (fun _ _ _ => i1) (fun _ _ _ => i2) (fun _ z1 z2 => nx 0 (Or.inr ⟨rfl, ?_⟩)) (fun _ _ _ => i1) (fun _ _ _ => i2) (fun _ z1 z2 => nx 1 (Or.inl ⟨rfl, ?_⟩))
      · rcases hx with ⟨q, -⟩ | ⟨-, q⟩
        · rw [q] at z; exact absurd z (by decide)
        · exact no q
      · rw [e2] at z2
        rcases hS with ⟨-, j, q2, q3⟩ | ⟨q1, -⟩
        · intro z
          have := z j w (by omega) (by omega) q3
          omega
        · exact absurd q1 z2
      · rw [e2] at z2
        rcases hS with ⟨q1, -⟩ | ⟨-, q2⟩
        · rw [q1] at z2; exact absurd z2 (by decide)
        · rcases hx with ⟨-, q⟩ | ⟨q, -⟩
          · intro a b ha hb hab
            rcases Nat.lt_or_ge a w with y1 | y1
            · rcases Nat.lt_or_ge b w with y2 | y2
              · exact q a b y1 y2 hab
              · rw [show b = w by omega] at hab
                exact absurd hab (q2 a y1)
            · rcases Nat.lt_or_ge b w with y2 | y2
              · rw [show a = w by omega] at hab
                exact absurd hab.symm (q2 b y2)
              · omega
          · exact absurd q z1
  have one : ∀ m w (h1 : ah) (sn1 : Nat → Int32), w + m = k ^ n → h1 50 = aZ 20000 sn1 → Fr [50] h h1 → (∀ u, u < w → sn1 u = 0) → V G mX8_isRight (b0 d) 2 [some (.ref 42), some (.int (nI w))] [] h1 Q := by
    intro m
    induction m with
    | zero =>
      intro w h1 sn1 hw a50 hfr hs
      refine tX8_isRight_2 ((hfr 42 (by decide)).trans g42) a50 (fun _ => ?_) (fun z => absurd (nI_le (by omega) (by omega)) z) (fun z => absurd (nI_le (by omega) (by omega)) z)
      exact two (k ^ n) 0 h1 sn1 1 (by omega) a50 hfr (fun u hu => Or.inr ⟨hs u (by omega), fun j hj => absurd hj (Nat.not_lt_zero j)⟩) (Or.inl ⟨rfl, fun a b ha => absurd ha (Nat.not_lt_zero a)⟩)
    | succ m ih =>
      intro w h1 sn1 hw a50 hfr hs
      refine tX8_isRight_2 ((hfr 42 (by decide)).trans g42) a50 (fun z => absurd z (nI_ge (by omega) (by omega))) (fun _ => vp_in_nI (by omega) (by decide)) (fun _ => ?_)
      rw [nI_clamp (by omega), vnb0, nI_1]
      refine ih (w + 1) _ (upd sn1 w 0) (by omega) rfl (hfr.up (by decide)) (fun u hu => ?_)
      by_cases hc : u = w
      · subst hc; exact pk_us
      · rw [pk_un hc]; exact hs u (by omega)
  exact Ct_of (by decide +kernel) (Nat.le_of_ble_eq_true rfl) (tX8_isRight_0 (one (k ^ n) 0 h sn (by omega) g50 Fr.rf (fun u hu => absurd hu (Nat.not_lt_zero u))))
end RT
theorem ri_0 {R : Bool} : ((if R = true then (1 : Int32) else 0) = 0) ↔ R = false := by cases R <;> decide
section RT2
variable {G : gx} {h : ah} {k n : Nat} {F T : Nat → Nat} {f l a e s1 s2 c s3 ms mx mc mw ml mf mp mg : Int32} {ff tt sn : Nat → Int32}
theorem X_right (ok : okW k n) (hF : okF k F) (g2 : h 2 = cX f l) (g3 : h 3 = cW k n) (g9 : h 9 = cR a e s1 s2 c s3) (g10 : h 10 = aI 14 ff) (hff : isF F ff) : Ct G mX7_right 1 0 0 [.ref 2] h (Rv (.int (if rt k (F 0) then 1 else 0)) h) := by
  refine Ct_of (by decide +kernel) (Nat.le_of_ble_eq_true rfl) (tX7_right_0 g2 ?_)
  refine cX7_right_4 (k := 7) (C_isRight ok hF g3 g9 g10 hff (d := 0)) g9 ⟨by decide, by decide⟩ (by decide) ⟨Nat.le_refl _, Nat.le_refl _⟩ (fun r h2 e => ?_)
  obtain ⟨rfl, rfl⟩ := e
  refine tX7_right_7 (fun e => ⟨?_, rfl⟩) (fun e => ⟨?_, rfl⟩)
  · rw [e]
  · cases hr : rt k (F 0) with
    | true => rfl
    | false => rw [hr] at e; exact absurd rfl e
theorem M_right {R : Bool} (ok : okW k n) (hT : ∀ w, w < k ^ n → T w < k ^ n) (hR : inj (k ^ n) T ↔ R = true) (g42 : h 42 = cM (nI k) (nI n) (nI (k ^ n)) ms mx mc mw ml mf mp mg) (g47 : h 47 = aI 20000 tt) (htt : ∀ w, w < k ^ n → tt w = nI (T w)) (g50 : h 50 = aZ 20000 sn) : Ct G mX8_right 1 0 0 [.ref 42] h (fun r h2 => r = some (.int (if R then 1 else 0)) ∧ (∃ s2, h2 50 = aZ 20000 s2) ∧ Fr [50] h h2) := by
  refine Ct_of (by decide +kernel) (Nat.le_of_ble_eq_true rfl) (tX8_right_0 ?_)
  refine cX8_right_1 (k := 40) (M_isRight ok hT hR g42 g47 htt g50 (d := 0)) g42 ⟨by decide, by decide⟩ (by decide) ⟨Nat.le_refl _, Nat.le_refl _⟩ (fun r h2 e => ?_)
  obtain ⟨rfl, a50, hfr⟩ := e
  refine tX8_right_4 (fun e => ⟨by rw [e], a50, hfr⟩) (fun e => ⟨?_, a50, hfr⟩)
  cases R with
  | true => rfl
  | false => exact absurd rfl e
end RT2
