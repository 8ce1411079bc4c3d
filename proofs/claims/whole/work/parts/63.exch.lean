/-! exchange, back, cycles, cycleOf, cycle: contracts -/
/-- leads and count stand -/
def RD (k n s : Nat) (F T : Nat → Nat) (e : Int32) (h : ah) : Prop := ∃ (s2 : Int32) (l0 cn lw pw ff : Nat → Int32), h 3 = cW k n ∧ h 4 = aI 15 pw ∧ isP k n pw ∧ h 9 = cR (nI s) e 1 s2 (nI (nQ T (k ^ n))) 1 ∧ h 10 = aI 14 ff ∧ isF F ff ∧ h 13 = aI 20000 l0 ∧ (∀ w, w < k ^ n → l0 w = nI (T w)) ∧ h 14 = aI 20000 cn ∧ h 15 = aI 20000 lw ∧ (s2 = 0 ∨ s2 = 1 ∧ (∀ w, w < k ^ n → cn w = nC T (k ^ n) w) ∧ ∀ j, j < nQ T (k ^ n) → lw j = nL T (k ^ n) j)
theorem RD.rg {k n s : Nat} {F T : Nat → Nat} {e : Int32} {h : ah} (hr : RD k n s F T e h) : RG k n s F T e h := by
  obtain ⟨s2, l0, cn, lw, pw, ff, a1, a2, a3, a4, a5, a6, a7, a8, a9, a10, a11⟩ := hr
  exact ⟨1, s2, _, 1, l0, cn, lw, pw, ff, a1, a2, a3, a4, a5, a6, a7, Or.inr ⟨rfl, a8⟩, a9, a10, a11.elim Or.inl (fun q => Or.inr ⟨q.1, rfl, rfl, q.2⟩), Or.inr ⟨rfl, rfl, rfl⟩⟩
theorem RN.rl {k n s : Nat} {F T : Nat → Nat} {e e0 : Int32} {h h2 : ah} (hr : RN k n s T e h2) (hg : RG k n s F T e0 h) (hf : Fr [9, 13, 14, 15] h h2) : RD k n s F T e h2 := by
  obtain ⟨s1, s2, c, s3, l0, cn, lw, pw, ff, a1, a2, a3, a4, a5, a6, a7, a8, a9, a10, a11, a12⟩ := hg
  obtain ⟨b1, ⟨l, b2, b3⟩, ⟨cc, b4, b5⟩, ⟨ll, b6, b7⟩⟩ := hr
  exact ⟨1, l, cc, ll, pw, ff, (hf 3 (by decide)).trans a1, (hf 4 (by decide)).trans a2, a3, b1, (hf 10 (by decide)).trans a5, a6, b2, b3, b4, b6, Or.inr ⟨rfl, b5, b7⟩⟩
section EX
variable {G : gx} {k n s : Nat} {F T : Nat → Nat} {e : Int32}
theorem C_howL {h : ah} (ok : okW k n) (hF : okF k F) (hs : s < k) (hT : pm (k ^ n) T) (hg : RG k n s F T e h) : Ct G mX2_howManyCycles 3 0 0 [.ref 9] h (fun r h2 => r = some (.int (nI (nQ T (k ^ n)))) ∧ RD k n s F T e h2 ∧ Fr [9, 13, 14, 15] h h2) := by
  have hg2 := hg
  obtain ⟨s1, s2, c, s3, l0, cn, lw, pw, ff, g3, g4, hp, g9, g10, hff, g13, hL, g14, g15, hn, hc⟩ := hg
  refine Ct_of (by decide +kernel) (Nat.le_of_ble_eq_true rfl) (tX2_howManyCycles_0 g9 (fun e1 => ?_) (fun e1 => ?_))
  · rcases hc with hc | ⟨rfl, rfl, rfl⟩
    · exact absurd hc e1
    · have hL2 : ∀ w, w < k ^ n → l0 w = nI (T w) := hL.elim (fun q => absurd q.1 (by decide)) (fun q => q.2)
      exact ⟨rfl, ⟨s2, l0, cn, lw, pw, ff, g3, g4, hp, g9, g10, hff, g13, hL2, g14, g15, hn.elim Or.inl (fun q => Or.inr ⟨q.1, q.2.2.2⟩)⟩, Fr.rf⟩
  · refine cX2_howManyCycles_8 (k := 7) (C_numberCycles ok hF hs hT hg2) g9 ⟨by decide, by decide⟩ (Nat.le_of_ble_eq_true rfl) ⟨Nat.le_refl _, Nat.le_refl _⟩ (fun r h2 e2 => ?_)
    obtain ⟨rfl, hr, hf⟩ := e2
    exact tX2_howManyCycles_11 hr.1 ⟨rfl, hr.rl hg2 hf, hf⟩
theorem C_inOne {h : ah} {a b : Nat} {B : Bool} (ok : okW k n) (hT : pm (k ^ n) T) (hg : RD k n s F T e h) (ha : a < k ^ n) (hb : b < k ^ n) (hab : a ≠ b) (hB : rel T a b ↔ B = true) {d : Nat} : Ct G mX2_inOneCycle d 0 0 [.ref 9, .int (nI a), .int (nI b)] h (Rv (.int (if B then 1 else 0)) h) := by
  have hN := ok.le (Nat.le_refl n)
  obtain ⟨s2, l0, cn, lw, pw, ff, g3, g4, hp, g9, g10, hff, g13, hL, g14, g15, hn⟩ := hg
  have ca : (nI a).toNatClampNeg = a := nI_clamp (by omega)
  have cb : (nI b).toNatClampNeg = b := nI_clamp (by omega)
  have va : vp_in (nI a) 20000 := vp_in_nI (by omega) (by decide)
  have vb : vp_in (nI b) 20000 := vp_in_nI (by omega) (by decide)
  obtain ⟨p, ⟨p1, pN, p3⟩, hmin⟩ := per hT ha
  refine Ct_of (by decide +kernel) (Nat.le_of_ble_eq_true rfl) (tX2_inOneCycle_0 g9 g13 g14 (fun _ => va) (fun _ => ?_) (fun _ => va) (fun _ => vb) (fun e1 e2 => ⟨?_, rfl⟩) (fun e1 e2 => ⟨?_, rfl⟩))
  · rw [ca, hL a ha]
    have key : ∀ q i, i + 1 + q = p → (∀ j, 1 ≤ j → j < i + 1 → itr T j a ≠ b) → V G mX2_inOneCycle (b0 d) 38 [some (.ref 9), some (.int (nI a)), some (.int (nI b)), some (.int (nI (itr T (i + 1) a))), some (.int (nI i))] [] h (Rv (.int (if B then 1 else 0)) h) := by
      intro q
      induction q with
      | zero =>
        intro i hi hno
        have hip : i + 1 = p := by omega
        have hBf : B = false := by
          cases hB2 : B
          · rfl
          · obtain ⟨j, hj⟩ := hB.mpr hB2
            exfalso
            have hjm : itr T (j % p) a = b := by
              rw [← hj]
              have := Nat.div_add_mod j p
              calc itr T (j % p) a = itr T (j % p + j / p * p) a := by rw [itr_add, itr_mul p3]
                _ = _ := by rw [Nat.mul_comm (j / p), Nat.add_comm, this]
            have hjp := Nat.mod_lt j (show 0 < p by omega)
            rcases Nat.eq_zero_or_pos (j % p) with z | z
            · rw [z] at hjm; exact hab hjm
            · exact hno (j % p) z (by omega) hjm
        rw [hip, p3, hBf]
        have hne : ¬ nI a = nI b := fun z => hab ((nI_eq (by omega) (by omega)).mp z)
        exact tX2_inOneCycle_38 g9 g3 g13 (fun _ _ => ⟨rfl, rfl⟩) (fun _ z => absurd z hne) (fun _ _ _ => ⟨rfl, rfl⟩) (fun _ _ z => absurd z hne) (fun _ z => absurd rfl z) (fun _ z => absurd rfl z) (fun _ z => absurd rfl z) (fun _ z => absurd rfl z)
      | succ q ih =>
        intro i hi hno
        have hti := itr_lt hT ha (i + 1)
        have hna : ¬ nI (itr T (i + 1) a) = nI a := fun z => hmin (i + 1) (by omega) ⟨by omega, by omega, (nI_eq (by omega) (by omega)).mp z⟩
        have hyes : nI (itr T (i + 1) a) = nI b → B = true := fun z => hB.mp ⟨i + 1, (nI_eq (by omega) (by omega)).mp z⟩
        refine tX2_inOneCycle_38 g9 g3 g13 (fun z => absurd z (nI_ge (by omega) (by omega))) (fun z => absurd z (nI_ge (by omega) (by omega))) (fun _ z => absurd z hna) (fun _ z => absurd z hna) (fun _ _ z1 z2 => absurd z1 z2) (fun _ _ z _ => ⟨by rw [hyes z]; rfl, rfl⟩) (fun _ _ _ => vp_in_nI (by omega) (by decide)) (fun _ _ z => ?_)
        rw [nI_clamp (by omega), hL _ hti, nI_1]
        refine ih (i + 1) (by omega) (fun j j1 j2 => ?_)
        by_cases hji : j = i + 1
        · rw [hji]; exact fun w => z (by rw [w])
        · exact hno j j1 (by omega)
    exact key (p - 1) 0 (by omega) (fun j j1 j2 => by omega)
  · rcases hn with hn | ⟨-, hn, -⟩
    · exact absurd hn e1
    · rw [ca, cb, hn a ha, hn b hb, nC_rel hT hN ha hb, hB] at e2
      rw [if_neg e2]
  · rcases hn with hn | ⟨-, hn, -⟩
    · exact absurd hn e1
    · rw [ca, cb, hn a ha, hn b hb, nC_rel hT hN ha hb, hB] at e2
      rw [if_pos e2]
theorem relB (T : Nat → Nat) (a b : Nat) : ∃ B : Bool, rel T a b ↔ B = true := by
  rcases Classical.em (rel T a b) with q | q
  · exact ⟨true, fun _ => rfl, fun _ => q⟩
  · exact ⟨false, fun z => absurd z q, fun z => absurd z (by decide)⟩
theorem nQ_sw {N : Nat} (hT : pm N T) (hN : N ≤ 20000) {a b : Nat} (ha : a < N) (hb : b < N) (hab : a ≠ b) {B : Bool} (hB : rel T a b ↔ B = true) : nQ (sw T a b) N = if B then nQ T N + 1 else nQ T N - 1 := by
  rw [nQ_cs (sw_pm hT ha hb) hN, nQ_cs hT hN]
  cases B with
  | true => rw [if_pos rfl]; exact cnt_split hT ha hb hab (hB.mpr rfl)
  | false =>
    have := cnt_merge hT ha hb (fun z => absurd (hB.mp z) (by decide))
    rw [if_neg (by decide)]
    omega
theorem C_countBehind {h : ah} {a b : Nat} (ok : okW k n) (hF : okF k F) (hs : s < k) (hT : pm (k ^ n) T) (hg : RG k n s F T e h) (ha : a < k ^ n) (hb : b < k ^ n) (hab : a ≠ b) : Ct G mX2_countBehindExchange 4 0 0 [.ref 9, .int (nI a), .int (nI b)] h (fun r h2 => r = some (.int (nI (nQ (sw T a b) (k ^ n)))) ∧ RD k n s F T e h2 ∧ Fr [9, 13, 14, 15] h h2) := by
  have hN := ok.le (Nat.le_refl n)
  have hg2 := hg
  obtain ⟨s1, s2, c, s3, l0, cn, lw, pw, ff, g3, g4, hp, g9, -⟩ := hg
  obtain ⟨B, hB⟩ := relB T a b
  have hq := nQ_pos hT hN (ok.pp n)
  rw [nQ_sw hT hN ha hb hab hB]
  refine Ct_of (by decide +kernel) (Nat.le_of_ble_eq_true rfl) (tX2_countBehindExchange_0 ?_)
  refine cX2_countBehindExchange_1 (k := 7) (C_howL ok hF hs hT hg2) g9 ⟨by decide, by decide⟩ (Nat.le_of_ble_eq_true rfl) ⟨Nat.le_refl _, Nat.le_refl _⟩ (fun r h2 e2 => ?_)
  obtain ⟨rfl, hl, hf⟩ := e2
  have hl2 := hl
  obtain ⟨s2, l0, cn, lw, pw, ff, -, -, -, k9, -⟩ := hl
  refine tX2_countBehindExchange_4 ?_
  refine cX2_countBehindExchange_8 (k := 7) (C_inOne ok hT hl2 ha hb hab hB (d := 0)) k9 ⟨by decide, by decide⟩ (Nat.le_of_ble_eq_true rfl) ⟨Nat.le_refl _, Nat.le_refl _⟩ (fun r h3 e2 => ?_)
  obtain ⟨rfl, e2⟩ := e2; replace e2 := e2.symm; subst e2
  refine tX2_countBehindExchange_11 (fun z => ⟨?_, hl2, hf⟩) (fun z => ⟨?_, hl2, hf⟩)
  · rw [ri_0] at z
    rw [z, if_neg (by decide), ← pk_sub (by omega)]
    rfl
  · rw [ri_0] at z
    rw [show B = true by cases B <;> simp_all, if_pos rfl, ← nI_1]
theorem C_swapLeads {h : ah} {a c s1 s2 s3 : Int32} {x y : Nat} {l0 : Nat → Int32} (hx : x < 20000) (hy : y < 20000) (g9 : h 9 = cR a e s1 s2 c s3) (g13 : h 13 = aI 20000 l0) {d : Nat} : Ct G mX2_swapLeads d 0 0 [.ref 9, .int (nI x), .int (nI y)] h (fun r h2 => r = none ∧ h2 = va_up (va_up h 13 (aI 20000 (upd (upd l0 x (l0 y)) y (l0 x)))) 9 (cR a e s1 0 c s3)) := by
  have cx : (nI x).toNatClampNeg = x := nI_clamp (by omega)
  have cy : (nI y).toNatClampNeg = y := nI_clamp (by omega)
  have vx : vp_in (nI x) 20000 := vp_in_nI hx (by decide)
  have vy : vp_in (nI y) 20000 := vp_in_nI hy (by decide)
  refine Ct_of (by decide +kernel) (Nat.le_of_ble_eq_true rfl) (tX2_swapLeads_0 g9 g13 vx vy vx vy ⟨rfl, ?_⟩)
  rw [bx_uu, cx, cy]
theorem C_noteExchange {h : ah} {a c s1 s2 s3 : Int32} {E : Nat} {x y : Int32} {o1 o2 : Nat → Int32} (hE : E < 400) (g9 : h 9 = cR a (nI E) s1 s2 c s3) (g11 : h 11 = aI 400 o1) (g12 : h 12 = aI 400 o2) {d : Nat} : Ct G mX2_noteExchange d 0 0 [.ref 9, .int x, .int y] h (fun r h2 => r = none ∧ h2 = va_up (va_up (va_up h 11 (aI 400 (upd o1 E x))) 12 (aI 400 (upd o2 E y))) 9 (cR a (nI (E + 1)) s1 s2 c s3)) := by
  have cE : (nI E).toNatClampNeg = E := nI_clamp (by omega)
  refine Ct_of (by decide +kernel) (Nat.le_of_ble_eq_true rfl) (tX2_noteExchange_0 g9 g11 g12 (vp_in_nI hE (by decide)) (vp_in_nI hE (by decide)) ⟨rfl, ?_⟩)
  rw [cE, nI_1]
theorem sw_ld {l0 : Nat → Int32} {N a b : Nat} (ha : a < N) (hb : b < N) (hl : ∀ w, w < N → l0 w = nI (T w)) : ∀ w, w < N → upd (upd l0 a (l0 b)) b (l0 a) w = nI (sw T a b w) := fun w hw => by
  by_cases h2 : w = b
  · rw [h2, pk_us, sw_b, hl a ha]
  · rw [pk_un h2]
    by_cases h1 : w = a
    · rw [h1, pk_us, sw_a, hl b hb]
    · rw [pk_un h1, sw_n h1 h2, hl w hw]
theorem C_makeExchange {h : ah} {a b E : Nat} {o1 o2 : Nat → Int32} (ok : okW k n) (hF : okF k F) (hs : s < k) (hT : pm (k ^ n) T) (hg : RG k n s F T (nI E) h) (hE : E < 400) (g11 : h 11 = aI 400 o1) (g12 : h 12 = aI 400 o2) (ha : a < k ^ n) (hb : b < k ^ n) (hab : a ≠ b) : Ct G mX2_makeExchange 5 0 0 [.ref 9, .int (nI a), .int (nI b)] h (fun r h2 => r = some (.int (nI (nQ (sw T a b) (k ^ n)))) ∧ RD k n s F (sw T a b) (nI (E + 1)) h2 ∧ h2 11 = aI 400 (upd o1 E (nI a)) ∧ h2 12 = aI 400 (upd o2 E (nI b)) ∧ Fr [9, 11, 12, 13, 14, 15] h h2) := by
  have hN := ok.le (Nat.le_refl n)
  have hg2 := hg
  obtain ⟨s1, s2, c, s3, l0, cn, lw, pw, ff, -, -, -, g9, -⟩ := hg
  refine Ct_of (by decide +kernel) (Nat.le_of_ble_eq_true rfl) (tX2_makeExchange_0 ?_)
  refine cX2_makeExchange_4 (k := 7) (C_countBehind ok hF hs hT hg2 ha hb hab) g9 ⟨by decide, by decide⟩ (Nat.le_of_ble_eq_true rfl) ⟨Nat.le_refl _, Nat.le_refl _⟩ (fun r h2 e2 => ?_)
  obtain ⟨rfl, hl, hf⟩ := e2
  obtain ⟨s2, l0, cn, lw, pw, ff, k3, k4, kp, k9, k10, kff, k13, kL, k14, k15, -⟩ := hl
  refine tX2_makeExchange_7 k9 ?_
  refine cX2_makeExchange_13 (k := 7) (h := va_up h2 9 (cR (nI s) (nI E) 1 s2 (nI (nQ (sw T a b) (k ^ n))) 1)) (C_swapLeads (x := a) (y := b) (by omega) (by omega) (up_s _ _ _) ((up_n _ _ (by decide)).trans k13) (d := 0)) (up_s _ _ _) ⟨by decide, by decide⟩ (Nat.le_of_ble_eq_true rfl) ⟨Nat.le_refl _, Nat.le_refl _⟩ (fun r h3 e2 => ?_)
  obtain ⟨rfl, e2⟩ := e2; replace e2 := e2.symm; subst e2
  refine tX2_makeExchange_16 ?_
  refine cX2_makeExchange_19 (k := 7) (C_noteExchange (E := E) hE (up_s _ _ _) ((up_n _ _ (by decide)).trans ((up_n _ _ (by decide)).trans ((up_n _ _ (by decide)).trans ((hf 11 (by decide)).trans g11)))) ((up_n _ _ (by decide)).trans ((up_n _ _ (by decide)).trans ((up_n _ _ (by decide)).trans ((hf 12 (by decide)).trans g12)))) (d := 0)) (up_s _ _ _) ⟨by decide, by decide⟩ (Nat.le_of_ble_eq_true rfl) ⟨Nat.le_refl _, Nat.le_refl _⟩ (fun r h4 e2 => ?_)
  obtain ⟨rfl, e2⟩ := e2; replace e2 := e2.symm; subst e2
  refine tX2_makeExchange_22 (up_s _ _ _) ⟨rfl, ⟨0, _, cn, lw, pw, ff, ?_, ?_, kp, up_s _ _ _, ?_, kff, ?_, sw_ld ha hb kL, ?_, ?_, Or.inl rfl⟩, ?_, ?_, ?_⟩
  · exact k3
  · exact k4
  · exact k10
  · rfl
  · exact k14
  · exact k15
  · rfl
  · rfl
  · refine Fr.up (Fr.up (Fr.up (Fr.up (Fr.up (Fr.up (hf.mono (by decide)) ?_) ?_) ?_) ?_) ?_) ?_ <;> decide
theorem C_takeBack {h : ah} {a b E : Nat} {o1 o2 : Nat → Int32} (ok : okW k n) (hF : okF k F) (hs : s < k) (hT : pm (k ^ n) T) (hg : RG k n s F T (nI (E + 1)) h) (hE : E < 400) (g11 : h 11 = aI 400 o1) (g12 : h 12 = aI 400 o2) (h1 : o1 E = nI a) (h2 : o2 E = nI b) (ha : a < k ^ n) (hb : b < k ^ n) (hab : a ≠ b) : Ct G mX2_takeBack 5 0 0 [.ref 9] h (fun r h2 => r = some (.int (nI E)) ∧ RD k n s F (sw T a b) (nI E) h2 ∧ Fr [9, 13, 14, 15] h h2) := by
  have hN := ok.le (Nat.le_refl n)
  have hg2 := hg
  obtain ⟨s1, s2, c, s3, l0, cn, lw, pw, ff, g3, g4, hp, g9, g10, hff, g13, hL, g14, g15, hn, hc⟩ := hg
  have eE : nI (E + 1) - (1 : Int32) = nI E := nI_pred E
  have cE : (nI E).toNatClampNeg = E := nI_clamp (by omega)
  have vE : vp_in (nI E) 400 := vp_in_nI hE (by decide)
  refine Ct_of (by decide +kernel) (Nat.le_of_ble_eq_true rfl) (tX2_takeBack_0 g9 g11 g12 (by rw [eE]; exact vE) (by rw [eE]; exact vE) ?_)
  rw [eE, cE, h1, h2]
  have hg3 : RG k n s F T (nI E) (va_up h 9 (cR (nI s) (nI E) s1 s2 c s3)) := ⟨s1, s2, c, s3, l0, cn, lw, pw, ff, (up_n _ _ (by decide)).trans g3, (up_n _ _ (by decide)).trans g4, hp, up_s _ _ _, (up_n _ _ (by decide)).trans g10, hff, (up_n _ _ (by decide)).trans g13, hL, (up_n _ _ (by decide)).trans g14, (up_n _ _ (by decide)).trans g15, hn, hc⟩
  refine cX2_takeBack_30 (k := 7) (h := va_up h 9 (cR (nI s) (nI E) s1 s2 c s3)) (C_countBehind ok hF hs hT hg3 ha hb hab) (up_s _ _ _) ⟨by decide, by decide⟩ (Nat.le_of_ble_eq_true rfl) ⟨Nat.le_refl _, Nat.le_refl _⟩ (fun r h3 e2 => ?_)
  obtain ⟨rfl, hl, hf⟩ := e2
  obtain ⟨s2, l0, cn, lw, pw, ff, k3, k4, kp, k9, k10, kff, k13, kL, k14, k15, -⟩ := hl
  have k11 : h3 11 = aI 400 o1 := (hf 11 (by decide)).trans ((up_n _ _ (by decide)).trans g11)
  have k12 : h3 12 = aI 400 o2 := (hf 12 (by decide)).trans ((up_n _ _ (by decide)).trans g12)
  refine tX2_takeBack_33 k9 k11 k12 vE vE ?_
  rw [cE, h1, h2]
  refine cX2_takeBack_55 (k := 7) (h := va_up h3 9 (cR (nI s) (nI E) 1 s2 (nI (nQ (sw T a b) (k ^ n))) 1)) (C_swapLeads (x := a) (y := b) (by omega) (by omega) (up_s _ _ _) ((up_n _ _ (by decide)).trans k13) (d := 0)) (up_s _ _ _) ⟨by decide, by decide⟩ (Nat.le_of_ble_eq_true rfl) ⟨Nat.le_refl _, Nat.le_refl _⟩ (fun r h4 e2 => ?_)
  obtain ⟨rfl, e2⟩ := e2; replace e2 := e2.symm; subst e2
  refine tX2_takeBack_58 (up_s _ _ _) ⟨rfl, ⟨0, _, cn, lw, pw, ff, ?_, ?_, kp, up_s _ _ _, ?_, kff, ?_, sw_ld ha hb kL, ?_, ?_, Or.inl rfl⟩, ?_⟩
  · exact k3
  · exact k4
  · exact k10
  · rfl
  · exact k14
  · exact k15
  · refine Fr.up (Fr.up (Fr.up (Fr.tr (Fr.up Fr.rf ?_) hf ?_) ?_) ?_) ?_ <;> decide
end EX
