/-! exchange, back, cycles, cycleOf, cycle: the reference's answers -/
def RM (k n : Nat) (T : Nat → Nat) (h : ah) : Prop := (∃ tt, h 47 = aI 20000 tt ∧ ∀ w, w < k ^ n → tt w = nI (T w)) ∧ (∃ sn, h 50 = aZ 20000 sn) ∧ ∃ nn, h 51 = aI 20000 nn
section ME
variable {G : gx} {h : ah} {k n : Nat} {ms mc mw ml mf mp mg : Int32} {T : Nat → Nat} {R : Bool}
theorem M_isR {mx : Int32} (ok : okW k n) (hT : ∀ w, w < k ^ n → T w < k ^ n) (hR : inj (k ^ n) T ↔ R = true) (g42 : h 42 = cM (nI k) (nI n) (nI (k ^ n)) ms mx mc mw ml mf mp mg) (hm : RM k n T h) {d : Nat} : Ct G mX8_isRight d 0 0 [.ref 42] h (fun r h2 => r = some (.int (if R then 1 else 0)) ∧ RM k n T h2 ∧ Fr [50] h h2) := by
  obtain ⟨⟨tt, g47, htt⟩, ⟨sn, g50⟩, ⟨nn, g51⟩⟩ := hm
  refine Ct.mono (M_isRight ok hT hR g42 g47 htt g50) (fun r h2 q => ?_)
  obtain ⟨e1, e2, e3⟩ := q
  exact ⟨e1, ⟨⟨tt, (e3 47 (by decide)).trans g47, htt⟩, e2, ⟨nn, (e3 51 (by decide)).trans g51⟩⟩, e3⟩
theorem M_fC {mx : Int32} (ok : okW k n) (hT : pm (k ^ n) T) (g42 : h 42 = cM (nI k) (nI n) (nI (k ^ n)) ms mx mc mw ml mf mp mg) (hm : RM k n T h) {d : Nat} : Ct G mX8_findCycles d 0 0 [.ref 42] h (fun r h2 => r = none ∧ h2 42 = cM (nI k) (nI n) (nI (k ^ n)) ms mx (nI (nQ T (k ^ n))) mw ml mf mp mg ∧ (∃ c, h2 51 = aI 20000 c ∧ ∀ w, w < k ^ n → c w = nC T (k ^ n) w) ∧ RM k n T h2 ∧ Fr [42, 51] h h2) := by
  obtain ⟨⟨tt, g47, htt⟩, ⟨sn, g50⟩, ⟨nn, g51⟩⟩ := hm
  refine Ct.mono (M_findCycles ok hT g42 g47 htt g51) (fun r h2 q => ?_)
  obtain ⟨e1, e2, ⟨c, e3, e4⟩, e5⟩ := q
  exact ⟨e1, e2, ⟨c, e3, e4⟩, ⟨⟨tt, (e5 47 (by decide)).trans g47, htt⟩, ⟨sn, (e5 50 (by decide)).trans g50⟩, ⟨c, e3⟩⟩, e5⟩
theorem M_swap {mx : Int32} {a b : Nat} (ok : okW k n) (g42 : h 42 = cM (nI k) (nI n) (nI (k ^ n)) ms mx mc mw ml mf mp mg) (hm : RM k n T h) (ha : a < k ^ n) (hb : b < k ^ n) {d : Nat} : Ct G mX8_swap d 0 0 [.ref 42, .int (nI a), .int (nI b)] h (fun r h2 => r = none ∧ RM k n (sw T a b) h2 ∧ Fr [47] h h2) := by
  have hN := ok.le (Nat.le_refl n)
  obtain ⟨⟨tt, g47, htt⟩, ⟨sn, g50⟩, ⟨nn, g51⟩⟩ := hm
  have va : vp_in (nI a) 20000 := vp_in_nI (by omega) (by decide)
  have vb : vp_in (nI b) 20000 := vp_in_nI (by omega) (by decide)
  refine Ct_of (by decide +kernel) (Nat.le_of_ble_eq_true rfl) (tX8_swap_0 g42 g47 va vb va vb ⟨rfl, ⟨⟨_, ?_, sw_ld ha hb htt⟩, ⟨sn, ?_⟩, ⟨nn, ?_⟩⟩, (Fr.rf.up (by decide)).up (by decide)⟩)
  · rw [up_s, nI_clamp (n := a) (by omega), nI_clamp (n := b) (by omega)]
  · exact (up_n _ _ (by decide)).trans ((up_n _ _ (by decide)).trans g50)
  · exact (up_n _ _ (by decide)).trans ((up_n _ _ (by decide)).trans g51)
theorem M_exchange_no {mx : Int32} (ok : okW k n) (g42 : h 42 = cM (nI k) (nI n) (nI (k ^ n)) ms mx mc mw ml mf mp mg) {x1 x2 : Int32} (hb : (x1 < 0 ∨ nI (k ^ n) ≤ x1) ∨ (x2 < 0 ∨ nI (k ^ n) ≤ x2)) : Ct G mX8_exchange 2 0 0 [.ref 42, .int x1, .int x2] h (Rv (.int (-2)) h) := by
  have hN := ok.le (Nat.le_refl n)
  have hp := ok.pp (n - 1)
  have hl := ok.le (i := n - 1) (by omega)
  have hk5 := ok.2.1
  refine Ct_of (by decide +kernel) (Nat.le_of_ble_eq_true rfl) (tX8_exchange_0 ?_)
  refine cX8_exchange_2 (k := 40) (C_isWord ok g42 x1) g42 ⟨by decide, by decide⟩ (Nat.le_of_ble_eq_true rfl) ⟨Nat.le_refl _, Nat.le_refl _⟩ (fun r h2 e => ?_)
  obtain ⟨rfl, e⟩ := e; replace e := e.symm; subst e
  refine tX8_exchange_5 (fun _ => ⟨rfl, rfl⟩) (fun e1 => ?_)
  refine cX8_exchange_10 (k := 40) (C_isWord ok g42 x2) g42 ⟨by decide, by decide⟩ (Nat.le_of_ble_eq_true rfl) ⟨Nat.le_refl _, Nat.le_refl _⟩ (fun r h2 e => ?_)
  obtain ⟨rfl, e⟩ := e; replace e := e.symm; subst e
  have hx : x2 < 0 ∨ nI (k ^ n) ≤ x2 := hb.resolve_left (fun q => e1 ((z01 _).mpr q))
  refine tX8_exchange_13 g42 (fun _ => ⟨rfl, rfl⟩) (fun z => absurd ((z01 _).mpr hx) z) (fun z => absurd ((z01 _).mpr hx) z) (fun z => absurd ((z01 _).mpr hx) z) (fun z => absurd ((z01 _).mpr hx) z) (fun z => absurd ((z01 _).mpr hx) z) (fun z => absurd ((z01 _).mpr hx) z) (fun z => absurd ((z01 _).mpr hx) z)
theorem M_exchange {a b E : Nat} {o1 o2 : Nat → Int32} (ok : okW k n) (hT : ∀ w, w < k ^ n → T w < k ^ n) (hR : inj (k ^ n) T ↔ R = true) (g42 : h 42 = cM (nI k) (nI n) (nI (k ^ n)) ms (nI E) mc mw ml mf mp mg) (hm : RM k n T h) (hE : E ≤ 400) (g48 : h 48 = aI 400 o1) (g49 : h 49 = aI 400 o2) (ha : a < k ^ n) (hb : b < k ^ n) : Ct G mX8_exchange 2 0 0 [.ref 42, .int (nI a), .int (nI b)] h (fun r h2 => if ¬ (a ≠ b ∧ a % k ^ (n - 1) = b % k ^ (n - 1)) then r = some (.int (-2)) ∧ h2 = h else if R = false then r = some (.int (-3)) ∧ h2 42 = cM (nI k) (nI n) (nI (k ^ n)) ms (nI E) mc mw ml mf mp mg ∧ RM k n T h2 ∧ Fr [50] h h2 else if E = 400 then r = some (.int (-4)) ∧ h2 42 = cM (nI k) (nI n) (nI (k ^ n)) ms (nI E) mc mw ml mf mp mg ∧ RM k n T h2 ∧ Fr [50] h h2 else r = some (.int (nI (nQ (sw T a b) (k ^ n)))) ∧ (∃ c2, h2 42 = cM (nI k) (nI n) (nI (k ^ n)) ms (nI (E + 1)) c2 mw ml mf mp mg) ∧ RM k n (sw T a b) h2 ∧ h2 48 = aI 400 (upd o1 E (nI a)) ∧ h2 49 = aI 400 (upd o2 E (nI b)) ∧ Fr [42, 47, 48, 49, 50, 51] h h2) := by
  have hN := ok.le (Nat.le_refl n)
  have hp := ok.pp (n - 1)
  have hl := ok.le (i := n - 1) (by omega)
  have hk5 := ok.2.1
  have hma := Nat.mod_le a (k ^ (n - 1))
  have hmb := Nat.mod_le b (k ^ (n - 1))
  have k0 : ¬ nI k = 0 := nI_n0 ok.pos (by omega)
  have h0 : ¬ nI (k ^ n) / nI k = 0 := by rw [hi_eq ok]; exact nI_n0 hp hl
  refine Ct_of (by decide +kernel) (Nat.le_of_ble_eq_true rfl) (tX8_exchange_0 ?_)
  refine cX8_exchange_2 (k := 40) (C_isWord ok g42 _) g42 ⟨by decide, by decide⟩ (Nat.le_of_ble_eq_true rfl) ⟨Nat.le_refl _, Nat.le_refl _⟩ (fun r h2 e => ?_)
  obtain ⟨rfl, e⟩ := e; replace e := e.symm; subst e
  refine tX8_exchange_5 (fun z => absurd ((z01 _).mp z) (w_no hN ha)) (fun _ => ?_)
  refine cX8_exchange_10 (k := 40) (C_isWord ok g42 _) g42 ⟨by decide, by decide⟩ (Nat.le_of_ble_eq_true rfl) ⟨Nat.le_refl _, Nat.le_refl _⟩ (fun r h2 e => ?_)
  obtain ⟨rfl, e⟩ := e; replace e := e.symm; subst e
  refine tX8_exchange_13 g42 (fun z => absurd ((z01 _).mp z) (w_no hN hb)) (fun _ z => ?_) (fun _ _ => k0) (fun _ _ => h0) (fun _ _ => k0) (fun _ _ => h0) (fun _ z1 z2 => ?_) (fun _ z1 z2 => ?_)
  · have hd : ¬ (a ≠ b ∧ a % k ^ (n - 1) = b % k ^ (n - 1)) := fun q => q.1 ((nI_eq (by omega) (by omega)).mp z)
    rw [if_pos hd]
    exact ⟨rfl, rfl⟩
  · rw [hi_eq ok, pk_rem (by omega) hp (by omega), pk_rem (by omega) hp (by omega), nI_eq (by omega) (by omega)] at z2
    have hd : a ≠ b ∧ a % k ^ (n - 1) = b % k ^ (n - 1) := ⟨fun q => z1 (by rw [q]), z2⟩
    have hdn : ¬ ¬ (a ≠ b ∧ a % k ^ (n - 1) = b % k ^ (n - 1)) := fun q => q hd
    simp only [if_neg hdn]
    refine cX8_exchange_50 (k := 40) (M_isR ok hT hR g42 hm (d := 0)) g42 ⟨by decide, by decide⟩ (Nat.le_of_ble_eq_true rfl) ⟨Nat.le_refl _, Nat.le_refl _⟩ (fun r h2 e => ?_)
    obtain ⟨rfl, hm2, hf⟩ := e
    have k42 := (hf 42 (by decide)).trans g42
    refine tX8_exchange_53 k42 (fun z3 z4 => ?_) (fun z3 z4 => ?_) (fun z3 => ?_)
    · rw [ri_0] at z3
      have hE2 : ¬ E = 400 := fun q => z4 (by rw [q]; rfl)
      simp only [if_neg z3, if_neg hE2]
      have hr : R = true := by cases R <;> simp_all
      have hpm : pm (k ^ n) T := ⟨hT, hR.mpr hr⟩
      refine cX8_exchange_75 (k := 40) (M_swap ok k42 hm2 ha hb (d := 0)) k42 ⟨by decide, by decide⟩ (Nat.le_of_ble_eq_true rfl) ⟨Nat.le_refl _, Nat.le_refl _⟩ (fun r h3 e => ?_)
      obtain ⟨rfl, hm3, hf3⟩ := e
      have k423 := (hf3 42 (by decide)).trans k42
      have k48 := (hf3 48 (by decide)).trans ((hf 48 (by decide)).trans g48)
      have k49 := (hf3 49 (by decide)).trans ((hf 49 (by decide)).trans g49)
      refine tX8_exchange_78 k423 k48 k49 (vp_in_nI (by omega) (by decide)) (vp_in_nI (by omega) (by decide)) ?_
      rw [nI_clamp (by omega), nI_1]
      have hm4 : RM k n (sw T a b) (va_up (va_up (va_up h3 48 (aI 400 (upd o1 E (nI a)))) 49 (aI 400 (upd o2 E (nI b)))) 42 (cM (nI k) (nI n) (nI (k ^ n)) ms (nI (E + 1)) mc mw ml mf mp mg)) := hm3
      refine cX8_exchange_109 (k := 40) (h := va_up (va_up (va_up h3 48 (aI 400 (upd o1 E (nI a)))) 49 (aI 400 (upd o2 E (nI b)))) 42 (cM (nI k) (nI n) (nI (k ^ n)) ms (nI (E + 1)) mc mw ml mf mp mg)) (M_fC ok (sw_pm hpm ha hb) (up_s _ _ _) hm4 (d := 0)) (up_s _ _ _) ⟨by decide, by decide⟩ (Nat.le_of_ble_eq_true rfl) ⟨Nat.le_refl _, Nat.le_refl _⟩ (fun r h5 e => ?_)
      obtain ⟨rfl, k425, -, hm5, hf5⟩ := e
      refine tX8_exchange_112 k425 ⟨rfl, ⟨_, k425⟩, hm5, (hf5 48 (by decide)).trans rfl, (hf5 49 (by decide)).trans rfl, ?_⟩
      exact Fr.tr (Fr.up (Fr.up (Fr.up (Fr.tr (hf.mono (by decide)) hf3 (by decide)) (by decide)) (by decide)) (by decide)) hf5 (by decide)
    · rw [ri_0] at z3
      have hE2 : E = 400 := (nI_eq (a := E) (b := 400) (by omega) (by omega)).mp z4
      rw [if_neg z3, if_pos hE2]
      exact ⟨rfl, k42, hm2, hf⟩
    · rw [ri_0] at z3
      rw [if_pos z3]
      exact ⟨rfl, k42, hm2, hf⟩
  · rw [hi_eq ok, pk_rem (by omega) hp (by omega), pk_rem (by omega) hp (by omega)] at z2
    have hd : ¬ (a ≠ b ∧ a % k ^ (n - 1) = b % k ^ (n - 1)) := fun q => z2 (by rw [q.2])
    rw [if_pos hd]
    exact ⟨rfl, rfl⟩
theorem M_back_no {o1 o2 : Nat → Int32} (g42 : h 42 = cM (nI k) (nI n) (nI (k ^ n)) ms 0 mc mw ml mf mp mg) (g48 : h 48 = aI 400 o1) (g49 : h 49 = aI 400 o2) : Ct G mX8_back 1 0 0 [.ref 42] h (Rv (.int (-3)) h) :=
  Ct_of (by decide +kernel) (Nat.le_of_ble_eq_true rfl) (tX8_back_0 g42 g48 g49 (fun z => absurd rfl z) (fun z => absurd rfl z) (fun z => absurd rfl z) (fun _ => ⟨rfl, rfl⟩))
theorem M_back {a b E : Nat} {o1 o2 : Nat → Int32} (ok : okW k n) (g42 : h 42 = cM (nI k) (nI n) (nI (k ^ n)) ms (nI (E + 1)) mc mw ml mf mp mg) (hm : RM k n T h) (hE : E < 400) (g48 : h 48 = aI 400 o1) (g49 : h 49 = aI 400 o2) (h1 : o1 E = nI a) (h2 : o2 E = nI b) (ha : a < k ^ n) (hb : b < k ^ n) : Ct G mX8_back 1 0 0 [.ref 42] h (fun r h2 => r = some (.int (nI E)) ∧ h2 42 = cM (nI k) (nI n) (nI (k ^ n)) ms (nI E) mc mw ml mf mp mg ∧ RM k n (sw T a b) h2 ∧ Fr [42, 47] h h2) := by
  have eE : nI (E + 1) - (1 : Int32) = nI E := nI_pred E
  have cE : (nI E).toNatClampNeg = E := nI_clamp (by omega)
  have vE : vp_in (nI E) 400 := vp_in_nI hE (by decide)
  refine Ct_of (by decide +kernel) (Nat.le_of_ble_eq_true rfl) (tX8_back_0 g42 g48 g49 (fun _ => by rw [eE]; exact vE) (fun _ => by rw [eE]; exact vE) (fun _ => ?_) (fun z => absurd z (nI_ne0 (by omega) (by omega))))
  rw [eE, cE, h1, h2]
  have hm2 : RM k n T (va_up h 42 (cM (nI k) (nI n) (nI (k ^ n)) ms (nI E) mc mw ml mf mp mg)) := hm
  refine cX8_back_39 (k := 40) (h := va_up h 42 (cM (nI k) (nI n) (nI (k ^ n)) ms (nI E) mc mw ml mf mp mg)) (M_swap ok (up_s _ _ _) hm2 ha hb (d := 0)) (up_s _ _ _) ⟨by decide, by decide⟩ (Nat.le_of_ble_eq_true rfl) ⟨Nat.le_refl _, Nat.le_refl _⟩ (fun r h3 e => ?_)
  obtain ⟨rfl, hm3, hf3⟩ := e
  have k42 := (hf3 42 (by decide)).trans (up_s h 42 _)
  exact tX8_back_42 k42 ⟨rfl, k42, hm3, Fr.tr (Fr.rf.up (by decide)) hf3 (by decide)⟩
theorem M_cycles {mx : Int32} (ok : okW k n) (hT : ∀ w, w < k ^ n → T w < k ^ n) (hR : inj (k ^ n) T ↔ R = true) (g42 : h 42 = cM (nI k) (nI n) (nI (k ^ n)) ms mx mc mw ml mf mp mg) (hm : RM k n T h) : Ct G mX8_cycles 1 0 0 [.ref 42] h (fun r h2 => r = some (.int (if R then nI (nQ T (k ^ n)) else -3)) ∧ (∃ c2, h2 42 = cM (nI k) (nI n) (nI (k ^ n)) ms mx c2 mw ml mf mp mg) ∧ RM k n T h2 ∧ Fr [42, 50, 51] h h2) := by
  refine Ct_of (by decide +kernel) (Nat.le_of_ble_eq_true rfl) (tX8_cycles_0 ?_)
  refine cX8_cycles_1 (k := 40) (M_isR ok hT hR g42 hm (d := 0)) g42 ⟨by decide, by decide⟩ (Nat.le_of_ble_eq_true rfl) ⟨Nat.le_refl _, Nat.le_refl _⟩ (fun r h2 e => ?_)
  obtain ⟨rfl, hm2, hf⟩ := e
  have k42 := (hf 42 (by decide)).trans g42
  refine tX8_cycles_4 (fun z => ?_) (fun z => ?_)
  · rw [ri_0] at z
    have hr : R = true := by cases R <;> simp_all
    refine cX8_cycles_11 (k := 40) (M_fC ok ⟨hT, hR.mpr hr⟩ k42 hm2 (d := 0)) k42 ⟨by decide, by decide⟩ (Nat.le_of_ble_eq_true rfl) ⟨Nat.le_refl _, Nat.le_refl _⟩ (fun r h3 e => ?_)
    obtain ⟨rfl, k423, -, hm3, hf3⟩ := e
    refine tX8_cycles_14 k423 ⟨?_, ⟨_, k423⟩, hm3, Fr.tr (hf.mono (by decide)) hf3 (by decide)⟩
    rw [hr, if_pos rfl]
  · rw [ri_0] at z
    rw [z]
    exact ⟨rfl, ⟨_, k42⟩, hm2, hf.mono (by decide)⟩
theorem M_cycleOf {mx : Int32} (ok : okW k n) (hT : ∀ w, w < k ^ n → T w < k ^ n) (hR : inj (k ^ n) T ↔ R = true) (g42 : h 42 = cM (nI k) (nI n) (nI (k ^ n)) ms mx mc mw ml mf mp mg) (hm : RM k n T h) (x : Int32) : Ct G mX8_cycleOf 2 0 0 [.ref 42, .int x] h (fun r h2 => r = some (.int (a_cof R (k ^ n) (nC T (k ^ n)) x)) ∧ (∃ c2, h2 42 = cM (nI k) (nI n) (nI (k ^ n)) ms mx c2 mw ml mf mp mg) ∧ RM k n T h2 ∧ Fr [42, 50, 51] h h2) := by
  have hN := ok.le (Nat.le_refl n)
  refine Ct_of (by decide +kernel) (Nat.le_of_ble_eq_true rfl) (tX8_cycleOf_0 ?_)
  refine cX8_cycleOf_1 (k := 40) (M_isR ok hT hR g42 hm (d := 0)) g42 ⟨by decide, by decide⟩ (Nat.le_of_ble_eq_true rfl) ⟨Nat.le_refl _, Nat.le_refl _⟩ (fun r h2 e => ?_)
  obtain ⟨rfl, hm2, hf⟩ := e
  have k42 := (hf 42 (by decide)).trans g42
  refine tX8_cycleOf_4 (fun z => ?_) (fun z => ?_)
  · rw [ri_0] at z
    have hr : R = true := by cases R <;> simp_all
    refine cX8_cycleOf_12 (k := 40) (C_isWord ok k42 x) k42 ⟨by decide, by decide⟩ (Nat.le_of_ble_eq_true rfl) ⟨Nat.le_refl _, Nat.le_refl _⟩ (fun r h3 e => ?_)
    obtain ⟨rfl, e⟩ := e; replace e := e.symm; subst e
    refine tX8_cycleOf_15 (fun z2 => ?_) (fun z2 => ?_)
    · have hx : ¬ (x < 0 ∨ nI (k ^ n) ≤ x) := fun q => z2 ((z01 _).mpr q)
      obtain ⟨w, hw, rfl⟩ := p_pick hN hx
      refine cX8_cycleOf_22 (k := 40) (M_fC ok ⟨hT, hR.mpr hr⟩ k42 hm2 (d := 0)) k42 ⟨by decide, by decide⟩ (Nat.le_of_ble_eq_true rfl) ⟨Nat.le_refl _, Nat.le_refl _⟩ (fun r h3 e => ?_)
      obtain ⟨rfl, k423, ⟨c, k51, kc⟩, hm3, hf3⟩ := e
      refine tX8_cycleOf_25 k423 k51 (vp_in_nI (by omega) (by decide)) ⟨?_, ⟨_, k423⟩, hm3, Fr.tr (hf.mono (by decide)) hf3 (by decide)⟩
      rw [a_cof, if_neg z, if_neg hx, nI_clamp (by omega), kc w hw]
    · exact ⟨by rw [a_cof, if_neg z, if_pos ((z01 _).mp z2)], ⟨_, k42⟩, hm2, hf.mono (by decide)⟩
  · rw [ri_0] at z
    exact ⟨by rw [a_cof, if_pos z], ⟨_, k42⟩, hm2, hf.mono (by decide)⟩
theorem m1_add (x : Int32) : x + (-1) = x - 1 := by rw [Int32.sub_eq_add_neg]
theorem M_cycle {mx : Int32} (ok : okW k n) (hT : ∀ w, w < k ^ n → T w < k ^ n) (hR : inj (k ^ n) T ↔ R = true) (g42 : h 42 = cM (nI k) (nI n) (nI (k ^ n)) ms mx mc mw ml mf mp mg) (hm : RM k n T h) (x y : Int32) : Ct G mX8_cycle 1 0 0 [.ref 42, .int x, .int y] h (fun r h2 => r = some (.int (a_cyc R (k ^ n) (nQ T (k ^ n)) (nC T (k ^ n)) (nL T (k ^ n)) x y)) ∧ (∃ c2, h2 42 = cM (nI k) (nI n) (nI (k ^ n)) ms mx c2 mw ml mf mp mg) ∧ RM k n T h2 ∧ Fr [42, 50, 51] h h2) := by
  have hN := ok.le (Nat.le_refl n)
  refine Ct_of (by decide +kernel) (Nat.le_of_ble_eq_true rfl) (tX8_cycle_0 ?_)
  refine cX8_cycle_1 (k := 40) (M_isR ok hT hR g42 hm (d := 0)) g42 ⟨by decide, by decide⟩ (Nat.le_of_ble_eq_true rfl) ⟨Nat.le_refl _, Nat.le_refl _⟩ (fun r h2 e => ?_)
  obtain ⟨rfl, hm2, hf⟩ := e
  have k42 := (hf 42 (by decide)).trans g42
  refine tX8_cycle_4 (fun z => ?_) (fun z => ?_)
  · rw [ri_0] at z
    have hr : R = true := by cases R <;> simp_all
    have hpm : pm (k ^ n) T := ⟨hT, hR.mpr hr⟩
    have hq := nQ_le hpm hN
    refine cX8_cycle_11 (k := 40) (M_fC ok hpm k42 hm2 (d := 0)) k42 ⟨by decide, by decide⟩ (Nat.le_of_ble_eq_true rfl) ⟨Nat.le_refl _, Nat.le_refl _⟩ (fun r h3 e => ?_)
    obtain ⟨rfl, k423, ⟨c, k51, kc⟩, hm3, hf3⟩ := e
    have hff : Fr [42, 50, 51] h h3 := Fr.tr (hf.mono (by decide)) hf3 (by decide)
    refine tX8_cycle_14 k423 ?_
    refine cX8_cycle_24 (C_in (d := 0) _ _ _) ⟨by decide, by decide⟩ (Nat.le_of_ble_eq_true rfl) ⟨Nat.le_refl _, Nat.le_refl _⟩ (fun r h4 e => ?_)
    obtain ⟨rfl, e⟩ := e; replace e := e.symm; subst e
    have hx := in_w0 (a := nQ T (k ^ n)) (by omega) x
    have hy := i64_a 0 1 0 1 (by decide) (by decide) y
    refine tX8_cycle_27 (fun z2 => ?_) (fun z2 => ?_)
    · exact ⟨by rw [a_cyc, if_neg z, if_pos (hx.mp ((z01 _).mp z2))], ⟨_, k423⟩, hm3, hff⟩
    · have hx2 : ¬ (x < 0 ∨ nI (nQ T (k ^ n)) ≤ x) := fun q => z2 ((z01 _).mpr (hx.mpr q))
      refine cX8_cycle_34 (C_in (d := 0) _ _ _) ⟨by decide, by decide⟩ (Nat.le_of_ble_eq_true rfl) ⟨Nat.le_refl _, Nat.le_refl _⟩ (fun r h5 e => ?_)
      obtain ⟨rfl, e⟩ := e; replace e := e.symm; subst e
      refine tX8_cycle_37 k423 (fun z3 => ?_) (fun z3 => ?_)
      · have hy2 : ¬ (y < 0 ∨ 1 < y) := fun q => z3 ((z01 _).mpr (hy.mpr q))
        obtain ⟨j, hj, rfl⟩ := p_pick (by omega) hx2
        obtain ⟨l, lN, l1, l2, l3⟩ := nL_val hpm hN hj
        have hans : a_cyc R (k ^ n) (nQ T (k ^ n)) (nC T (k ^ n)) (nL T (k ^ n)) (nI j) y = if y = 0 then nI l else nI (cs (fun w => decide (nC T (k ^ n) w = nI j)) (k ^ n)) := by
          obtain ⟨q, q1, rfl⟩ := nI_of2 (M := 1) (n := 1) (by decide) (fun q => hy2 (Or.inl q)) (Int32.not_lt.mp (fun q => hy2 (Or.inr q)))
          rw [a_cyc, if_neg z, if_neg hx2, nI_clamp (by omega), l1]
          match q, q1 with
          | 0, _ => rfl
          | 1, _ => rfl
        rw [hans]
        generalize hS : (fun w => decide (nC T (k ^ n) w = nI j)) = S
        have hSw : ∀ w, w < k ^ n → (c w = nI j ↔ S w = true) := fun w hw => by rw [← hS, kc w hw, decide_eq_true_iff]
        have key : ∀ i (x4 : Int32), i ≤ k ^ n → ((∀ w, i ≤ w → w < k ^ n → S w = false) ∧ x4 = -1 ∨ ∃ m, i ≤ m ∧ m < k ^ n ∧ S m = true ∧ (∀ w, i ≤ w → w < m → S w = false) ∧ x4 = nI m) → V G mX8_cycle (1, 0, 0, 0 + 0 + 0 + 0 + 0, 0 + 0 + 0 + 0 + 0) 56 [some (.ref 42), some (.int (nI j)), some (.int y), some (.int (nI (cs S (k ^ n) - cs S i))), some (.int x4), some (.int (nI i - 1))] [] h3 (fun r h2 => r = some (.int (if y = 0 then nI l else nI (cs S (k ^ n)))) ∧ (∃ c2, h2 42 = cM (nI k) (nI n) (nI (k ^ n)) ms mx c2 mw ml mf mp mg) ∧ RM k n T h2 ∧ Fr [42, 50, 51] h h2) := by
          intro i
          induction i with
          | zero =>
            intro x4 hi hx4
            have hl4 : x4 = nI l := by
              have hSl : S l = true := (hSw l lN).mp (by rw [kc l lN]; exact l2)
              rcases hx4 with ⟨q, -⟩ | ⟨m, -, m1, m2, m3, m4⟩
              · rw [q l (Nat.zero_le _) lN] at hSl
                exact absurd hSl (by decide)
              · have h1 := l3 m m1 (by rw [← kc m m1]; exact (hSw m m1).mpr m2)
                rcases Nat.lt_or_ge l m with q | q
                · rw [m3 l (Nat.zero_le _) q] at hSl
                  exact absurd hSl (by decide)
                · rw [m4, show m = l by omega]
            refine tX8_cycle_56 k423 k51 (fun _ z4 => ⟨?_, ⟨_, k423⟩, hm3, hff⟩) (fun _ z4 => ⟨?_, ⟨_, k423⟩, hm3, hff⟩) (fun z4 => absurd (by decide) z4) (fun z4 => absurd (by decide) z4) (fun z4 => absurd (by decide) z4)
            · rw [if_neg z4]
              rfl
            · rw [if_pos z4, hl4]
          | succ i ih =>
            intro x4 hi hx4
            have e1 : nI (i + 1) - (1 : Int32) = nI i := nI_pred i
            have c1 := cs_le S i
            have mono : ∀ m, cs S i ≤ cs S (i + m) := by
              intro m
              induction m with
              | zero => exact Nat.le_refl _
              | succ m ihm => exact Nat.le_trans ihm (Nat.le_add_right _ _)
            have mono2 : cs S (i + 1) ≤ cs S (k ^ n) := by
              have : ∀ m, cs S (i + 1) ≤ cs S (i + 1 + m) := by
                intro m
                induction m with
                | zero => exact Nat.le_refl _
                | succ m ihm => exact Nat.le_trans ihm (Nat.le_add_right _ _)
              have := this (k ^ n - (i + 1))
              rw [show i + 1 + (k ^ n - (i + 1)) = k ^ n by omega] at this
              exact this
            have ecs : cs S (i + 1) = cs S i + (S i).toNat := rfl
            rw [e1]
            refine tX8_cycle_56 k423 k51 (fun z4 => absurd z4 (nI_pos (by omega))) (fun z4 => absurd z4 (nI_pos (by omega))) (fun _ => vp_in_nI (by omega) (by decide)) (fun _ z4 => ?_) (fun _ z4 => ?_)
            · rw [nI_clamp (by omega), hSw i (by omega)] at z4
              have hSi : S i = false := by cases hb : S i <;> simp_all
              rw [m1_add]
              have := ih x4 (by omega) (by
                rcases hx4 with ⟨q1, q2⟩ | ⟨m, m0, m1, m2, m3, m4⟩
                · refine Or.inl ⟨fun w w1 w2 => ?_, q2⟩
                  by_cases hwi : w = i
                  · rw [hwi]; exact hSi
                  · exact q1 w (by omega) w2
                · refine Or.inr ⟨m, by omega, m1, m2, fun w w1 w2 => ?_, m4⟩
                  by_cases hwi : w = i
                  · rw [hwi]; exact hSi
                  · exact m3 w (by omega) w2)
              rw [ecs, hSi]
              exact this
            · rw [nI_clamp (by omega), hSw i (by omega)] at z4
              rw [m1_add, nI_1]
              have := ih (nI i) (by omega) (Or.inr ⟨i, Nat.le_refl _, by omega, z4, fun w w1 w2 => absurd w1 (by omega), rfl⟩)
              rw [ecs, z4] at mono2
              have e5 : cs S (k ^ n) - cs S (i + 1) + 1 = cs S (k ^ n) - cs S i := by
                rw [ecs, z4]
                have : true.toNat = 1 := rfl
                omega
              rw [e5]
              exact this
        have := key (k ^ n) (-1) (Nat.le_refl _) (Or.inl ⟨fun w w1 w2 => absurd w1 (by omega), rfl⟩)
        rw [Nat.sub_self] at this
        exact this
      · have hy2 : y < 0 ∨ 1 < y := hy.mp ((z01 _).mp z3)
        refine ⟨?_, ⟨_, k423⟩, hm3, hff⟩
        rw [a_cyc, if_neg z, if_neg hx2, if_neg (fun q => by rw [q] at hy2; exact absurd hy2 (by decide)), if_neg (fun q => by rw [q] at hy2; exact absurd hy2 (by decide))]
  · rw [ri_0] at z
    exact ⟨by rw [a_cyc, if_pos z], ⟨_, k42⟩, hm2, hf.mono (by decide)⟩
end ME
