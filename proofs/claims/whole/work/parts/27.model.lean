/-! CONTRACTS of the reference: words and rings -/
theorem lgc_lt (x z : Int64) : lg_cmp x z < 0 ↔ x < z := by
  unfold lg_cmp
  by_cases h1 : x > z
  · rw [if_pos h1]
    refine ⟨fun e => absurd e (by decide), fun e => ?_⟩
    rw [gt_iff_lt, Int64.lt_iff_toInt_lt] at h1
    rw [Int64.lt_iff_toInt_lt] at e
    omega
  · rw [if_neg h1]
    by_cases h2 : x = z
    · rw [if_pos h2]
      refine ⟨fun e => absurd e (by decide), fun e => ?_⟩
      subst h2
      rw [Int64.lt_iff_toInt_lt] at e
      omega
    · rw [if_neg h2]
      refine ⟨fun _ => ?_, fun _ => by decide⟩
      rw [gt_iff_lt, Int64.lt_iff_toInt_lt] at h1
      rw [Int64.lt_iff_toInt_lt]
      have h3 : x.toInt ≠ z.toInt := fun e => h2 (Int64.toInt_inj.mp e)
      omega
theorem lgc_gt (x z : Int64) : 0 < lg_cmp x z ↔ z < x := by
  unfold lg_cmp
  by_cases h1 : x > z
  · rw [if_pos h1]
    exact ⟨fun _ => h1, fun _ => by decide⟩
  · rw [if_neg h1]
    by_cases h2 : x = z
    · rw [if_pos h2]
      exact ⟨fun e => absurd e (by decide), fun e => absurd e h1⟩
    · rw [if_neg h2]
      exact ⟨fun e => absurd e (by decide), fun e => absurd e h1⟩
theorem i64_lt (x z : Int32) : x.toInt64 < z.toInt64 ↔ x < z := by
  rw [Int64.lt_iff_toInt_lt, Int32.lt_iff_toInt_lt, Int32.toInt_toInt64, Int32.toInt_toInt64]
/-- the reference's object: k n all sum exchanges cycleMany which latest firstFound partMany length -/
abbrev cM (k n a s x c w l f p g : Int32) : ce := (8, .inl [.int k, .int n, .int a, .ref 43, .ref 44, .ref 45, .ref 46, .int s, .ref 47, .int x, .ref 48, .ref 49, .ref 50, .ref 51, .int c, .ref 52, .int w, .ref 53, .ref 54, .ref 55, .ref 56, .ref 57, .ref 58, .int l, .int f, .int p, .ref 59, .int g, .ref 60, .ref 61, .ref 62, .ref 63, .ref 64])
section CM
variable {G : gx} {h : ah} {k n : Nat} {ms mx mc mw ml mf mp mg : Int32}
theorem C_in (a l u : Int64) {d : Nat} : Ct G mX8_in d 0 0 [.long a, .long l, .long u] h (Rv (.int (if a < l ∨ u < a then 0 else 1)) h) :=
  Ct_of (by decide +kernel) (Nat.le_of_ble_eq_true rfl) (V_sub (by exact (And.intro rfl (And.intro rfl (And.intro rfl True.intro)))) (tX8_in_0 (fun e => ⟨by rw [if_pos (Or.inl ((lgc_lt a l).mp e))], rfl⟩) (fun _ e => ⟨by rw [if_pos (Or.inr ((lgc_gt a u).mp e))], rfl⟩) (fun e1 e2 => ⟨by rw [if_neg (fun z => z.elim (fun z => e1 ((lgc_lt a l).mpr z)) (fun z => e2 ((lgc_gt a u).mpr z)))], rfl⟩)))
theorem bz (c : Prop) [Decidable c] : narrow .boolean (.int (if c then 0 else 1)) = .int (if c then 0 else 1) := by
  by_cases h : c
  · rw [if_pos h]; rfl
  · rw [if_neg h]; rfl
theorem in_w {a : Nat} (h1 : 1 ≤ a) (h2 : a ≤ 20000) (x : Int32) : (x.toInt64 < (0 : Int64) ∨ (nI a - (1 : Int32)).toInt64 < x.toInt64) ↔ (x < 0 ∨ nI a ≤ x) := by
  have e0 : (0 : Int64) = (0 : Int32).toInt64 := by decide
  rw [e0, i64_lt, i64_lt]
  have e1 : (nI a - nI 1).toInt = (a : Int) - 1 := pk_sub_toInt (by omega) (by omega)
  have e2 : (nI a - (1 : Int32)).toInt = (a : Int) - 1 := e1
  have e3 : (nI a).toInt = (a : Int) := nI_toInt (by omega)
  rw [Int32.lt_iff_toInt_lt (x := nI a - 1), Int32.le_iff_toInt_le (x := nI a), e2, e3]
  constructor
  · rintro (z | z)
    · exact Or.inl z
    · exact Or.inr (by omega)
  · rintro (z | z)
    · exact Or.inl z
    · exact Or.inr (by omega)
theorem C_isWord (ok : okW k n) (g42 : h 42 = cM (nI k) (nI n) (nI (k ^ n)) ms mx mc mw ml mf mp mg) (x : Int32) : Ct G mX8_isWord 1 0 0 [.ref 42, .int x] h (Rv (.int (if x < 0 ∨ nI (k ^ n) ≤ x then 0 else 1)) h) := by
  refine Ct_of (by decide +kernel) (Nat.le_of_ble_eq_true rfl) (tX8_isWord_0 g42 ?_)
  refine cX8_isWord_10 (C_in (d := 0) _ _ _) ⟨by decide, by decide⟩ (by decide) ⟨Nat.le_refl _, Nat.le_refl _⟩ (fun r h2 e => ?_)
  obtain ⟨rfl, rfl⟩ := e
  refine tX8_isWord_13 ⟨?_, rfl⟩ (bz _)
  have := in_w (ok.pp n) (ok.le (Nat.le_refl n)) x
  by_cases hc : x < 0 ∨ nI (k ^ n) ≤ x
  · rw [if_pos hc, if_pos (this.mpr hc)]
  · rw [if_neg hc, if_neg (fun z => hc (this.mp z))]
theorem hi_eq (ok : okW k n) : nI (k ^ n) / nI k = nI (k ^ (n - 1)) := by
  have hl := ok.le (Nat.le_refl n)
  have hk5 := ok.2.1
  rw [pk_div (by omega) ok.pos (by omega)]
  have h1 : k ^ n = k ^ (n - 1) * k := by
    rw [← Nat.pow_succ, show (n - 1).succ = n by have := ok.2.2.1; omega]
  rw [h1, Nat.mul_div_cancel _ ok.pos]
theorem C_next (ok : okW k n) (g42 : h 42 = cM (nI k) (nI n) (nI (k ^ n)) ms mx mc mw ml mf mp mg) {w : Nat} (hw : w < k ^ n) {d : Nat} : Ct G mX8_next d 0 0 [.ref 42, .int (nI w)] h (Rv (.int (nI (tn k n w))) h) := by
  have hp := ok.pp (n - 1)
  have hl := ok.le (i := n - 1) (by omega)
  have hl2 := ok.le (Nat.le_refl n)
  have hk5 := ok.2.1
  refine Ct_of (by decide +kernel) (Nat.le_of_ble_eq_true rfl) (tX8_next_0 g42 (nI_n0 ok.pos (by omega)) (by rw [hi_eq ok]; exact nI_n0 hp hl) (by rw [hi_eq ok]; exact nI_n0 hp hl) ⟨?_, rfl⟩)
  rw [hi_eq ok, pk_rem (by omega) hp (by omega), pk_div (by omega) hp (by omega), pk_mul, nI_add]
  rfl
end CM
theorem lm_ti {k n w : Nat} : ∀ (t s : Nat), s ≤ t → lm k n w t ≤ ti k n s w
  | 0, s, h => by rw [show s = 0 by omega]; exact Nat.le_refl _
  | t + 1, s, h => by
    rcases Nat.lt_or_ge s (t + 1) with h1 | h1
    · exact Nat.le_trans (Nat.min_le_left _ _) (lm_ti t s (by omega))
    · rw [show s = t + 1 by omega]; exact Nat.min_le_right _ _
theorem lm_in {k n w : Nat} : ∀ t : Nat, ∃ s, s ≤ t ∧ lm k n w t = ti k n s w
  | 0 => ⟨0, Nat.le_refl _, rfl⟩
  | t + 1 => by
    obtain ⟨s, h1, h2⟩ := lm_in (k := k) (n := n) (w := w) t
    rcases Nat.le_total (lm k n w t) (ti k n (t + 1) w) with h3 | h3
    · exact ⟨s, by omega, by rw [← h2]; exact Nat.min_eq_left h3⟩
    · exact ⟨t + 1, Nat.le_refl _, Nat.min_eq_right h3⟩
theorem ti_per {k n w p : Nat} (hp : ti k n p w = w) : ∀ q, ti k n (q * p) w = w
  | 0 => by rw [Nat.zero_mul]; rfl
  | q + 1 => by rw [Nat.succ_mul, ti_add, ti_per hp q, hp]
theorem ti_mod {k n w p : Nat} (hp : ti k n p w = w) (s : Nat) : ti k n s w = ti k n (s % p) w := by
  have h := Nat.div_add_mod s p
  calc ti k n s w = ti k n (s / p * p + s % p) w := by rw [Nat.mul_comm, h]
    _ = _ := by rw [ti_add, ti_per hp]
theorem lm_per {k n w p : Nat} (h0 : 0 < p) (hp : ti k n p w = w) {t : Nat} (ht : p - 1 ≤ t) : lm k n w t = lm k n w (p - 1) := by
  obtain ⟨s, h1, h2⟩ := lm_in (k := k) (n := n) (w := w) t
  obtain ⟨s2, h3, h4⟩ := lm_in (k := k) (n := n) (w := w) (p - 1)
  have h5 : lm k n w (p - 1) ≤ ti k n (s % p) w := lm_ti (p - 1) (s % p) (by have := Nat.mod_lt s h0; omega)
  have h6 : lm k n w t ≤ ti k n s2 w := lm_ti t s2 (by omega)
  rw [← ti_mod hp, ← h2] at h5
  rw [← h4] at h6
  omega
section CM2
variable {G : gx} {h : ah} {k n : Nat} {ms mx mc mw ml mf mp mg : Int32}
theorem M_leastOf (ok : okW k n) (g42 : h 42 = cM (nI k) (nI n) (nI (k ^ n)) ms mx mc mw ml mf mp mg) {w : Nat} (hw : w < k ^ n) : Ct G mX8_leastOf 1 0 0 [.ref 42, .int (nI w)] h (Rv (.int (nI (lo k n w))) h) := by
  have hl2 := ok.le (Nat.le_refl n)
  have hk := ok.pos
  have hn := ok.2.2.1
  have hn2 := ok.2.2.2.1
  have key : ∀ m t, t + 1 + m = n → V G mX8_leastOf (b0 1) 8 [some (.ref 42), some (.int (nI w)), some (.int (nI (lm k n w t))), some (.int (nI (ti k n (t + 1) w)))] [] h (Rv (.int (nI (lo k n w))) h) := by
    intro m
    induction m with
    | zero =>
      intro t ht
      have e1 : ti k n (t + 1) w = w := by rw [show t + 1 = n by omega]; exact ti_n hk hw
      rw [e1]
      refine tX8_leastOf_8 (fun _ => ⟨?_, rfl⟩) (fun e => absurd rfl e) (fun e => absurd rfl e)
      rw [lo, show n - 1 = t by omega]
    | succ m ih =>
      intro t ht
      have hti := ti_lt hk hn hw (t + 1)
      have hlm := lm_lt (k := k) (n := n) hw t
      have go : ∀ x2 : Int32, x2 = nI (lm k n w (t + 1)) → V G mX8_leastOf (b0 1) 26 [some (.ref 42), some (.int (nI w)), some (.int x2), some (.int (nI (ti k n (t + 1) w)))] [.int (nI (ti k n (t + 1) w)), .ref 42] h (Rv (.int (nI (lo k n w))) h) := by
        intro x2 hx
        subst hx
        refine cX8_leastOf_26 (C_next ok g42 hti (d := 0)) g42 ⟨by decide, by decide⟩ (by decide) ⟨Nat.le_refl _, Nat.le_refl _⟩ (fun r h2 e => ?_)
        obtain ⟨rfl, rfl⟩ := e
        exact tX8_leastOf_29 (ih (t + 1) (by omega))
      refine tX8_leastOf_8 (fun e => ⟨?_, rfl⟩) (fun _ e => go _ ?_) (fun _ e => go _ ?_)
      · have e2 := (nI_eq (by omega) (by omega)).mp e
        rw [lo, lm_per (p := t + 1) (by omega) e2 (t := n - 1) (by omega)]
        rfl
      · have e2 := (nI_leI (by omega) (by omega)).mp e
        rw [lm, Nat.min_eq_left e2]
      · have e2 : ¬ lm k n w t ≤ ti k n (t + 1) w := fun z => e ((nI_leI (by omega) (by omega)).mpr z)
        rw [lm, Nat.min_eq_right (by omega)]
  refine Ct_of (by decide +kernel) (Nat.le_of_ble_eq_true rfl) (tX8_leastOf_0 ?_)
  refine cX8_leastOf_4 (C_next ok g42 hw (d := 0)) g42 ⟨by decide, by decide⟩ (by decide) ⟨Nat.le_refl _, Nat.le_refl _⟩ (fun r h2 e => ?_)
  obtain ⟨rfl, rfl⟩ := e
  exact tX8_leastOf_7 (key (n - 1) 0 (by omega))
theorem M_sizeOf (ok : okW k n) (g42 : h 42 = cM (nI k) (nI n) (nI (k ^ n)) ms mx mc mw ml mf mp mg) {w : Nat} (hw : w < k ^ n) : Ct G mX8_sizeOf 1 0 0 [.ref 42, .int (nI w)] h (Rv (.int (nI (rz k n w (n - 1) 1))) h) := by
  have hl2 := ok.le (Nat.le_refl n)
  have hk := ok.pos
  have hn := ok.2.2.1
  have hn2 := ok.2.2.2.1
  have key : ∀ m t, t + m = n → 1 ≤ t → V G mX8_sizeOf (b0 1) 8 [some (.ref 42), some (.int (nI w)), some (.int (nI t)), some (.int (nI (ti k n t w)))] [] h (Rv (.int (nI (rz k n w m t))) h) := by
    intro m
    induction m with
    | zero =>
      intro t ht h1
      have e1 : ti k n t w = w := by rw [show t = n by omega]; exact ti_n hk hw
      rw [e1]
      exact tX8_sizeOf_8 (fun _ => ⟨rfl, rfl⟩) (fun e => absurd rfl e)
    | succ m ih =>
      intro t ht h1
      have hti := ti_lt hk hn hw t
      refine tX8_sizeOf_8 (fun e => ⟨?_, rfl⟩) (fun e => ?_)
      · have e2 := (nI_eq (by omega) (by omega)).mp e
        rw [rz, if_pos e2]
      · have e2 : ¬ ti k n t w = w := fun z => e (by rw [z])
        rw [rz, if_neg e2, nI_1]
        refine cX8_sizeOf_18 (C_next ok g42 hti (d := 0)) g42 ⟨by decide, by decide⟩ (by decide) ⟨Nat.le_refl _, Nat.le_refl _⟩ (fun r h2 e => ?_)
        obtain ⟨rfl, rfl⟩ := e
        exact tX8_sizeOf_21 (ih (t + 1) (by omega) (by omega))
  refine Ct_of (by decide +kernel) (Nat.le_of_ble_eq_true rfl) (tX8_sizeOf_0 ?_)
  refine cX8_sizeOf_4 (C_next ok g42 hw (d := 0)) g42 ⟨by decide, by decide⟩ (by decide) ⟨Nat.le_refl _, Nat.le_refl _⟩ (fun r h2 e => ?_)
  obtain ⟨rfl, rfl⟩ := e
  exact tX8_sizeOf_7 (key (n - 1) 1 (by omega) (by omega))
end CM2
