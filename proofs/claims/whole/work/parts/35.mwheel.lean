/-! the reference's lead and wheel -/
/-- SUM and all factors times letters together: i letters are left in r -/
def vs (k : Nat) (F : Nat → Nat) : Nat → Nat → Nat → Nat
  | 0, _, v => v
  | i + 1, r, v => vs k F i (r / k) (v + F i * (r % k))
/-- where a word leads without exchanges -/
def ld (k n : Nat) (F : Nat → Nat) (s w : Nat) : Nat := w % k ^ (n - 1) * k + vs k F n w s % k
def okF (k : Nat) (F : Nat → Nat) : Prop := ∀ i, i < 14 → F i < k
def isF (F : Nat → Nat) (f : Nat → Int32) : Prop := ∀ i, i < 14 → f i = nI (F i)
theorem vs_le {k : Nat} {F : Nat → Nat} (hk : k ≤ 5) (hF : okF k F) : ∀ (i r v : Nat), i ≤ 14 → vs k F i r v ≤ v + 25 * i
  | 0, _, _, _ => Nat.le_refl _
  | i + 1, r, v, h => by
    have h1 := vs_le hk hF i (r / k) (v + F i * (r % k)) (by omega)
    have h2 := hF i (by omega)
    have h3 : r % k ≤ 5 := by
      rcases Nat.eq_zero_or_pos k with q | q
      · omega
      · have := Nat.mod_lt r q; omega
    have h4 : F i * (r % k) ≤ 5 * 5 := Nat.mul_le_mul (by omega) h3
    show vs k F i (r / k) (v + F i * (r % k)) ≤ _
    omega
section MW
variable {G : gx} {k n : Nat} {mc mw ml mf mp mg : Int32}
theorem M_lead {h : ah} {s : Nat} {mx : Int32} {F : Nat → Nat} {ff tt : Nat → Int32} (ok : okW k n) (hF : okF k F) (hs : s < k) (g42 : h 42 = cM (nI k) (nI n) (nI (k ^ n)) (nI s) mx mc mw ml mf mp mg) (g46 : h 46 = aI 14 ff) (hff : isF F ff) (g47 : h 47 = aI 20000 tt) {d : Nat} : Ct G mX8_lead d 0 0 [.ref 42] h (fun r h2 => r = none ∧ h2 42 = cM (nI k) (nI n) (nI (k ^ n)) (nI s) 0 mc mw ml mf mp mg ∧ (∃ t2, h2 47 = aI 20000 t2 ∧ ∀ w, w < k ^ n → t2 w = nI (ld k n F s w)) ∧ Fr [42, 47] h h2) := by
  have hl := ok.le (Nat.le_refl n)
  have hk := ok.pos
  have hk5 := ok.2.1
  have hn := ok.2.2.1
  have hn2 := ok.2.2.2.1
  have hp := ok.pp (n - 1)
  have hl1 := ok.le (i := n - 1) (by omega)
  have outer : ∀ m w (h1 : ah) (t1 : Nat → Int32), w + m = k ^ n → h1 42 = cM (nI k) (nI n) (nI (k ^ n)) (nI s) 0 mc mw ml mf mp mg → h1 46 = aI 14 ff → h1 47 = aI 20000 t1 → (∀ j, j < w → t1 j = nI (ld k n F s j)) → Fr [42, 47] h h1 → V G mX8_lead (b0 d) 17 [some (.ref 42), some (.int (nI (k ^ (n - 1)))), some (.int (nI w))] [] h1 (fun r h2 => r = none ∧ h2 42 = cM (nI k) (nI n) (nI (k ^ n)) (nI s) 0 mc mw ml mf mp mg ∧ (∃ t2, h2 47 = aI 20000 t2 ∧ ∀ w, w < k ^ n → t2 w = nI (ld k n F s w)) ∧ Fr [42, 47] h h2) := by
    intro m
    induction m with
    | zero =>
      intro w h1 t1 hw a42 a46 a47 ht hfr
      exact tX8_lead_17 a42 (fun _ => ⟨rfl, a42, ⟨t1, a47, fun j hj => ht j (by omega)⟩, hfr⟩) (fun e => absurd (nI_le (by omega) (by omega)) e)
    | succ m ih =>
      intro w h1 t1 hw a42 a46 a47 ht hfr
      refine tX8_lead_17 a42 (fun e => absurd e (nI_ge (by omega) (by omega))) (fun _ => ?_)
      have inner : ∀ i r v, i ≤ n → r ≤ 20000 → vs k F i r v = vs k F n w s → V G mX8_lead (b0 d) 41 [some (.ref 42), some (.int (nI (k ^ (n - 1)))), some (.int (nI w)), some (.int (nI v)), some (.int (nI r)), some (.int (nI i - 1))] [] h1 (fun r h2 => r = none ∧ h2 42 = cM (nI k) (nI n) (nI (k ^ n)) (nI s) 0 mc mw ml mf mp mg ∧ (∃ t2, h2 47 = aI 20000 t2 ∧ ∀ w, w < k ^ n → t2 w = nI (ld k n F s w)) ∧ Fr [42, 47] h h2) := by
        intro i
        induction i with
        | zero =>
          intro r v hi hr hv
          have hvv : v = vs k F n w s := hv
          have hvb := vs_le hk5 hF n w s hn2
          have hneg : nI 0 - 1 < 0 := by decide
          refine tX8_lead_41 a42 a47 a46 (fun _ => nI_n0 hp hl1) (fun _ => nI_n0 hk (by omega)) (fun _ => vp_in_nI (by omega) (by omega)) (fun _ => ?_) (fun e => absurd hneg e) (fun e => absurd hneg e) (fun e => absurd hneg e) (fun e => absurd hneg e)
          rw [pk_rem (by omega) hp (by omega), pk_rem (by omega) hk (by omega), pk_mul, nI_add, nI_clamp (by omega), nI_1]
          refine ih (w + 1) _ (upd t1 w (nI (w % k ^ (n - 1) * k + v % k))) (by omega) a42 a46 rfl (fun j hj => ?_) (hfr.up (by decide))
          by_cases hjw : j = w
          · subst hjw
            rw [pk_us, hvv]
            rfl
          · rw [pk_un hjw]
            exact ht j (by omega)
        | succ i ihi =>
          intro r v hi hr hv
          have e0 : nI (i + 1) - 1 = nI i := nI_pred i
          rw [e0]
          have hpos : ¬ nI i < 0 := nI_pos (by omega)
          refine tX8_lead_41 a42 a47 a46 (fun e => absurd e hpos) (fun e => absurd e hpos) (fun e => absurd e hpos) (fun e => absurd e hpos) (fun _ => vp_in_nI (by omega) (by omega)) (fun _ => nI_n0 hk (by omega)) (fun _ => nI_n0 hk (by omega)) (fun _ => ?_)
          rw [pk_rem (by omega) hk (by omega), pk_div (by omega) hk (by omega), nI_clamp (by omega), hff i (by omega), pk_mul, nI_add]
          have e1 : nI i + (-1 : Int32) = nI i - 1 := by rw [Int32.sub_eq_add_neg]
          rw [e1]
          exact ihi (r / k) (v + F i * (r % k)) (by omega) (Nat.le_trans (Nat.div_le_self r k) hr) hv
      exact inner n w s (Nat.le_refl n) (by omega) rfl
  refine Ct_of (by decide +kernel) (Nat.le_of_ble_eq_true rfl) (tX8_lead_0 g42 (nI_n0 hk (by omega)) ?_)
  rw [hi_eq ok]
  exact outer (k ^ n) 0 _ tt (by omega) rfl g46 g47 (fun j hj => absurd hj (Nat.not_lt_zero j)) (Fr.rf.up (by decide))
end MW
