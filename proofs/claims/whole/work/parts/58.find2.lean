/-! find: both sides -/
/-- at how many of the first p places there are at most s slips -/
def fmc (S : Nat → Nat → Bool) (m s : Nat) : Nat → Nat
  | 0 => 0
  | p + 1 => fmc S m s p + if cs (S p) m ≤ s then 1 else 0
def fmf (S : Nat → Nat → Bool) (m s : Nat) (f : Int32) : Nat → Int32
  | 0 => f
  | p + 1 => if cs (S p) m ≤ s ∧ fmc S m s p = 0 then nI p else fmf S m s f p
theorem fmc_le (S : Nat → Nat → Bool) (m s : Nat) : ∀ p, fmc S m s p ≤ p
  | 0 => Nat.le_refl _
  | p + 1 => by
    have := fmc_le S m s p
    show fmc S m s p + (if cs (S p) m ≤ s then 1 else 0) ≤ p + 1
    split <;> omega
theorem fmf_0 {S : Nat → Nat → Bool} {m s : Nat} {f : Int32} : ∀ p, fmc S m s p = 0 → fmf S m s f p = f
  | 0, _ => rfl
  | p + 1, h => by
    have h2 : fmc S m s p + (if cs (S p) m ≤ s then 1 else 0) = 0 := h
    show (if cs (S p) m ≤ s ∧ fmc S m s p = 0 then nI p else fmf S m s f p) = f
    by_cases hc : cs (S p) m ≤ s
    · rw [if_pos hc] at h2; omega
    · rw [if_neg (fun z => hc z.1)]
      exact fmf_0 p (by omega)
theorem fmf_u {S : Nat → Nat → Bool} {m s : Nat} {f g : Int32} : ∀ p, 0 < fmc S m s p → fmf S m s f p = fmf S m s g p
  | 0, h => absurd h (Nat.lt_irrefl 0)
  | p + 1, h => by
    have h2 : 0 < fmc S m s p + (if cs (S p) m ≤ s then 1 else 0) := h
    show (if cs (S p) m ≤ s ∧ fmc S m s p = 0 then nI p else fmf S m s f p) = (if cs (S p) m ≤ s ∧ fmc S m s p = 0 then nI p else fmf S m s g p)
    by_cases hc : cs (S p) m ≤ s ∧ fmc S m s p = 0
    · rw [if_pos hc, if_pos hc]
    · rw [if_neg hc, if_neg hc]
      by_cases h0 : fmc S m s p = 0
      · rw [h0, Nat.zero_add] at h2
        by_cases hc2 : cs (S p) m ≤ s
        · exact absurd ⟨hc2, h0⟩ hc
        · rw [if_neg hc2] at h2; omega
      · exact fmf_u p (by omega)
section FM
variable {G : gx} {h : ah} {k n : Nat}
theorem C_countMatches {kd fm : Int32} {c i m s : Nat} {it rl : Nat → Int32} {rr : Nat → Nat} {sl st : Nat → Int64} {S : Nat → Nat → Bool} (ok : okW k n) (g3 : h 3 = cW k n) (g17 : h 17 = cO kd fm) (g18 : h 18 = aB 20000 rl) (hr : ∀ j, j < k ^ n → rl j = nI (rr j) ∧ rr j < k) (g21 : h 21 = aJ 5 sl) (g22 : h 22 = aJ 5 st) (gi : h (c + 2) = aI 200 it) (hc : 20 < c) (him : i + m ≤ 200) (hm1 : 1 ≤ m) (hm : m ≤ 40) (hs40 : s ≤ 40) (hS : ∀ p b, b < m → so1 k it i (rr ((p + b) % k ^ n)) b = S p b) : Ct G mX4_countMatches 2 0 0 [.ref 17, .ref (c + 2), .int (nI i), .int (nI m), .int (nI s)] h (fun r h2 => r = some (.int (nI (fmc S m s (k ^ n)))) ∧ h2 17 = cO kd (fmf S m s fm (k ^ n)) ∧ (∃ s2, h2 21 = aJ 5 s2) ∧ (∃ s2, h2 22 = aJ 5 s2) ∧ Fr [17, 21, 22] h h2) := by
  have hk5 := ok.2.1
  have hN := ok.le (Nat.le_refl n)
  have h0 := ok.pp n
  generalize hQ : (fun (r : Option Value) (h2 : ah) => r = some (.int (nI (fmc S m s (k ^ n)))) ∧ h2 17 = cO kd (fmf S m s fm (k ^ n)) ∧ (∃ s2, h2 21 = aJ 5 s2) ∧ (∃ s2, h2 22 = aJ 5 s2) ∧ Fr [17, 21, 22] h h2) = Q
  refine Ct_of (by decide +kernel) (Nat.le_of_ble_eq_true rfl) (tX4_countMatches_0 ?_)
  refine cX4_countMatches_4 (k := 15) (C_noteSlips ok g3 g17 g21 gi (by omega) him hm) g17 ⟨by decide, by decide⟩ (Nat.le_of_ble_eq_true rfl) ⟨Nat.le_refl _, Nat.le_refl _⟩ (fun r h1 e => ?_)
  obtain ⟨rfl, ⟨sl2, k21, kb1⟩, kf1⟩ := e
  refine tX4_countMatches_7 ?_
  refine cX4_countMatches_9 (k := 15) (C_noteFirst ok ((kf1 3 (by decide)).trans g3) ((kf1 17 (by decide)).trans g17) ((kf1 18 (by decide)).trans g18) hr ((kf1 22 (by decide)).trans g22) hm1 hm) ((kf1 17 (by decide)).trans g17) ⟨by decide, by decide⟩ (Nat.le_of_ble_eq_true rfl) ⟨Nat.le_refl _, Nat.le_refl _⟩ (fun r h2 e => ?_)
  obtain ⟨rfl, ⟨st2, k22, kb2⟩, kf2⟩ := e
  refine tX4_countMatches_12 ?_
  have e21 : h2 21 = aJ 5 sl2 := (kf2 21 (by decide)).trans k21
  have e3 : h2 3 = cW k n := (kf2 3 (by decide)).trans ((kf1 3 (by decide)).trans g3)
  have e17 : h2 17 = cO kd fm := (kf2 17 (by decide)).trans ((kf1 17 (by decide)).trans g17)
  have e18 : h2 18 = aB 20000 rl := (kf2 18 (by decide)).trans ((kf1 18 (by decide)).trans g18)
  have ef : Fr [17, 21, 22] h h2 := Fr.tr (kf1.mono (by decide)) kf2 (by decide)
  clear kf1 kf2 k21
  rw [show nI m - (1 : Int32) = nI (m - 1) from pk_sub hm1]
  have out : ∀ q p (hh : ah) (sv : Nat → Int64), p + q = k ^ n → hh 17 = cO kd (fmf S m s fm p) → hh 22 = aJ 5 sv → (∀ u, u < k → ∀ b, tbt (sv u) (b + 1) = (decide (b + 1 < m) && decide (rr ((p + b) % k ^ n) = u))) → Fr [17, 22] h2 hh → V G mX4_countMatches (b0 2) 27 [some (.ref 17), some (.ref (c + 2)), some (.int (nI i)), some (.int (nI m)), some (.int (nI s)), some (.int (nI ((p + (m - 1)) % k ^ n))), some (.long ((1 : Int64) <<< ((nI (m - 1)).toInt64 &&& 63))), none, some (.int (nI (fmc S m s p))), some (.int (nI p))] [] hh Q := by
    intro q
    induction q with
    | zero =>
      intro p hh sv hp c17 c22 cb cf
      refine tX4_countMatches_27 c17 ((cf 3 (by decide)).trans e3) ((cf 18 (by decide)).trans e18) (fun _ => ?_) (fun e => absurd (nI_le (by omega) (by omega)) e) (fun e => absurd (nI_le (by omega) (by omega)) e)
      rw [← hQ, ← show p = k ^ n by omega]
      exact ⟨rfl, c17, ⟨_, (cf 21 (by decide)).trans e21⟩, ⟨_, c22⟩, Fr.tr ef cf (by decide)⟩
    | succ q ih =>
      intro p hh sv hp c17 c22 cb cf
      have hcm := Nat.mod_lt (p + (m - 1)) h0
      obtain ⟨hr1, hr2⟩ := hr _ hcm
      have d3 := (cf 3 (by decide)).trans e3
      have d18 := (cf 18 (by decide)).trans e18
      refine tX4_countMatches_27 c17 d3 d18 (fun e => absurd e (nI_ge (by omega) (by omega))) (fun _ => vp_in_nI (by omega) (by decide)) (fun _ => ?_)
      rw [nI_clamp (by omega), hr1]
      have hfp := fmc_le S m s p
      have inn : ∀ q2 v (h3 : ah) (s3 : Nat → Int64) (y : Int64), v + q2 = k → h3 22 = aJ 5 s3 → (∀ u, u < v → ∀ b, tbt (s3 u) b = (decide (b < m) && decide (rr ((p + b) % k ^ n) = u))) → (∀ u, v ≤ u → u < k → ∀ b, tbt (s3 u) (b + 1) = (decide (b + 1 < m) && decide (rr ((p + b) % k ^ n) = u))) → (∀ b, tbt y b = (decide (b < m) && (decide (rr ((p + b) % k ^ n) < v) && so1 k it i (rr ((p + b) % k ^ n)) b))) → Fr [22] hh h3 → V G mX4_countMatches (b0 2) 54 [some (.ref 17), some (.ref (c + 2)), some (.int (nI i)), some (.int (nI m)), some (.int (nI s)), some (.int (nI ((p + (m - 1)) % k ^ n))), some (.long ((1 : Int64) <<< ((nI (m - 1)).toInt64 &&& 63))), none, some (.int (nI (fmc S m s p))), some (.int (nI p)), some (.long y), none, some (.int (nI (rr ((p + (m - 1)) % k ^ n)))), some (.int (nI v))] [] h3 Q := by
        intro q2
        induction q2 with
        | zero =>
          intro v h3 s3 y hv f22 fb fo fy ff
          have f17 : h3 17 = cO kd (fmf S m s fm p) := (ff 17 (by decide)).trans c17
          have f3 : h3 3 = cW k n := (ff 3 (by decide)).trans d3
          have f21 : h3 21 = aJ 5 sl2 := (ff 21 (by decide)).trans ((cf 21 (by decide)).trans e21)
          have hcnt : bcn (nb y) 64 = cs (S p) m := bcn_cs (fun b => by
            rw [fy b]
            by_cases hb : b < m
            · have hq := (hr _ (Nat.mod_lt (p + b) h0)).2
              rw [decide_eq_true hb, decide_eq_true (p := rr ((p + b) % k ^ n) < v) (by omega), hS p b hb]
              simp
            · rw [decide_eq_false hb]
              simp) (by omega)
          have hcl := cs_le (S p) m
          have hff : Fr [17, 22] h2 h3 := Fr.tr cf ff (by decide)
          have fin : ∀ x5 : Int32, x5 = nI ((p + 1 + (m - 1)) % k ^ n) → V G mX4_countMatches (b0 2) 148 [some (.ref 17), some (.ref (c + 2)), some (.int (nI i)), some (.int (nI m)), some (.int (nI s)), some (.int x5), some (.long ((1 : Int64) <<< ((nI (m - 1)).toInt64 &&& 63))), none, some (.int (nI (fmc S m s p))), some (.int (nI p)), some (.long y), none, some (.int (nI (rr ((p + (m - 1)) % k ^ n)))), some (.int (nI v))] [.long y] h3 Q := by
            intro x5 hx5
            subst hx5
            refine cX4_countMatches_148 (C_bitCount y (d := 0)) ⟨by decide, by decide⟩ (Nat.le_of_ble_eq_true rfl) ⟨Nat.le_refl _, Nat.le_refl _⟩ (fun r h4 e => ?_)
            obtain ⟨rfl, e⟩ := e; replace e := e.symm; subst e
            have fb2 : ∀ u, u < k → ∀ b, tbt (s3 u) (b + 1) = (decide (b + 1 < m) && decide (rr ((p + 1 + b) % k ^ n) = u)) := fun u hu b => by
              rw [fb u (by omega) (b + 1), show p + (b + 1) = p + 1 + b by omega]
            refine tX4_countMatches_151 f17 (fun e => ?_) (fun e1 e2 => ?_) (fun e1 e2 => ?_)
            · rw [hcnt, nI_ltI (by omega) (by omega)] at e
              have u1 : fmc S m s (p + 1) = fmc S m s p := by show fmc S m s p + (if cs (S p) m ≤ s then 1 else 0) = _; rw [if_neg (by omega)]; rfl
              have u2 : fmf S m s fm (p + 1) = fmf S m s fm p := if_neg (fun z => absurd z.1 (by omega))
              rw [nI_1]
              have := ih (p + 1) h3 s3 (by omega) (by rw [u2]; exact f17) f22 fb2 hff
              rw [u1] at this
              exact this
            · rw [hcnt, nI_ltI (by omega) (by omega)] at e1
              have hne : ¬ fmc S m s p = 0 := fun z => e2 (by rw [z]; exact nI_0)
              have u1 : fmc S m s (p + 1) = fmc S m s p + 1 := by show fmc S m s p + (if cs (S p) m ≤ s then 1 else 0) = _; rw [if_pos (by omega)]
              have u2 : fmf S m s fm (p + 1) = fmf S m s fm p := if_neg (fun z => absurd z.2 hne)
              rw [nI_1, nI_1]
              have := ih (p + 1) h3 s3 (by omega) (by rw [u2]; exact f17) f22 fb2 hff
              rw [u1] at this
              exact this
            · rw [hcnt, nI_ltI (by omega) (by omega)] at e1
              have hne : fmc S m s p = 0 := (nI_eq (by omega) (by omega)).mp (e2.trans nI_0.symm)
              have u1 : fmc S m s (p + 1) = fmc S m s p + 1 := by show fmc S m s p + (if cs (S p) m ≤ s then 1 else 0) = _; rw [if_pos (by omega)]
              have u2 : fmf S m s fm (p + 1) = nI p := if_pos ⟨by omega, hne⟩
              rw [nI_1, nI_1]
              have := ih (p + 1) (va_up h3 17 (cO kd (nI p))) s3 (by omega) (by rw [u2]; exact up_s _ _ _) ((up_n _ _ (by decide)).trans f22) fb2 (hff.up (by decide))
              rw [u1] at this
              exact this
          have hs := rd_next (p := p + (m - 1)) h0
          rw [show p + (m - 1) + 1 = p + 1 + (m - 1) by omega] at hs
          have kle : nI k ≤ nI v := nI_le (by omega) (by omega)
          refine tX4_countMatches_54 f17 f3 f22 f21 (fun _ e => ?_) (fun _ e => ?_) (fun e => absurd kle e) (fun e => absurd kle e) (fun e => absurd kle e) (fun e => absurd kle e) (fun e => absurd kle e) (fun e => absurd kle e) (fun e => absurd kle e) (fun e => absurd kle e) (fun e => absurd kle e)
          · rw [nI_1, nI_leI (by omega) (by omega)] at e
            rw [if_neg (by omega)] at hs
            exact fin 0 (by rw [hs]; rfl)
          · rw [nI_1, nI_leI (by omega) (by omega)] at e
            rw [if_pos (by omega)] at hs
            exact fin _ (by rw [nI_1, hs])
        | succ q2 ih2 =>
          intro v h3 s3 y hv f22 fb fo fy ff
          have f17 : h3 17 = cO kd (fmf S m s fm p) := (ff 17 (by decide)).trans c17
          have f3 : h3 3 = cW k n := (ff 3 (by decide)).trans d3
          have f21 : h3 21 = aJ 5 sl2 := (ff 21 (by decide)).trans ((cf 21 (by decide)).trans e21)
          have vin : vp_in (nI v) 5 := vp_in_nI (by omega) (by decide)
          have cl : (nI v).toNatClampNeg = v := nI_clamp (by omega)
          have step : ∀ x : Int64, (∀ b, tbt x b = (decide (b < m) && decide (rr ((p + b) % k ^ n) = v))) → V G mX4_countMatches (b0 2) 54 [some (.ref 17), some (.ref (c + 2)), some (.int (nI i)), some (.int (nI m)), some (.int (nI s)), some (.int (nI ((p + (m - 1)) % k ^ n))), some (.long ((1 : Int64) <<< ((nI (m - 1)).toInt64 &&& 63))), none, some (.int (nI (fmc S m s p))), some (.int (nI p)), some (.long (y ||| (vp_updL s3 v x v &&& sl2 v))), none, some (.int (nI (rr ((p + (m - 1)) % k ^ n)))), some (.int (nI (v + 1)))] [] (va_up h3 22 (aJ 5 (vp_updL s3 v x))) Q := by
            intro x hx
            refine ih2 (v + 1) _ _ _ (by omega) (up_s _ _ _) (fun u hu b => ?_) (fun u hu1 hu2 b => ?_) (fun b => ?_) (ff.up (by decide))
            · by_cases huv : u = v
              · rw [huv, pk_uLs, hx b]
              · rw [pk_uLn huv]; exact fb u (by omega) b
            · rw [pk_uLn (by omega)]; exact fo u (by omega) hu2 b
            · rw [tbt_or, tbt_and, pk_uLs, hx b, kb1 v (by omega) b, fy b]
              by_cases hb : b < m
              · rw [decide_eq_true hb]
                by_cases hq : rr ((p + b) % k ^ n) = v
                · rw [hq, decide_eq_false (p := v < v) (by omega), decide_eq_true (p := v < v + 1) (by omega), decide_eq_true rfl]
                  simp
                · rw [decide_eq_false hq, show decide (rr ((p + b) % k ^ n) < v + 1) = decide (rr ((p + b) % k ^ n) < v) by apply decide_eq_decide.mpr; omega]
                  simp
              · rw [decide_eq_false hb]
                simp
          have sh : ∀ b, tbt ((s3 v).toUInt64 >>> ((1 : Int32).toInt64.toUInt64 &&& Int64.toUInt64 63)).toInt64 b = (decide (b + 1 < m) && decide (rr ((p + b) % k ^ n) = v)) := fun b => by
            rw [tbt_shr]; exact fo v (Nat.le_refl _) (by omega) b
          refine tX4_countMatches_54 f17 f3 f22 f21 (fun e => absurd e (nI_ge (by omega) (by omega))) (fun e => absurd e (nI_ge (by omega) (by omega))) (fun _ => vin) (fun _ _ => vin) (fun _ _ => vin) (fun _ _ => vin) (fun _ e => ?_) (fun _ _ => vin) (fun _ _ => vin) (fun _ _ => vin) (fun _ e => ?_)
          · rw [nI_1, cl]
            refine step _ (fun b => ?_)
            rw [tbt_or, sh b, tbt_0, Bool.or_false]
            have e2 : ¬ v = rr ((p + (m - 1)) % k ^ n) := fun z => e (by rw [← z])
            by_cases hb : b + 1 = m
            · rw [show b = m - 1 by omega, decide_eq_false (p := rr ((p + (m - 1)) % k ^ n) = v) (fun z => e2 z.symm), Bool.and_false, Bool.and_false]
            · rw [show decide (b + 1 < m) = decide (b < m) by apply decide_eq_decide.mpr; omega]
          · rw [nI_1, cl]
            refine step _ (fun b => ?_)
            rw [tbt_or, sh b, tbt_bit (by omega)]
            have e2 : v = rr ((p + (m - 1)) % k ^ n) := (nI_eq (by omega) (by omega)).mp e
            by_cases hb : b + 1 = m
            · rw [show b = m - 1 by omega, decide_eq_true (p := rr ((p + (m - 1)) % k ^ n) = v) e2.symm, decide_eq_true (p := m - 1 = m - 1) rfl, decide_eq_true (p := m - 1 < m) (by omega)]
              simp
            · rw [show decide (b + 1 < m) = decide (b < m) by apply decide_eq_decide.mpr; omega, decide_eq_false (p := m - 1 = b) (by omega), Bool.or_false]
      refine inn k 0 hh sv 0 (by omega) c22 (fun u hu => absurd hu (Nat.not_lt_zero u)) (fun u _ hu b => cb u hu b) (fun b => ?_) Fr.rf
      rw [tbt_0, decide_eq_false (p := rr ((p + b) % k ^ n) < 0) (by omega)]
      simp
  have := out (k ^ n) 0 h2 st2 (by omega) e17 k22 (fun u hu b => by
    rw [kb2 u hu (b + 1), show b + 1 - 1 = b by omega, Nat.zero_add, show decide (1 ≤ b + 1 ∧ b + 1 < m) = decide (b + 1 < m) by apply decide_eq_decide.mpr; omega]) Fr.rf
  rw [Nat.zero_add] at this
  exact this
end FM
