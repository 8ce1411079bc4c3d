/-! Register.leads: where each word leads -/
def sg (k : Nat) (F : Nat → Nat) (b : Nat) : Nat → Nat → Nat
  | 0, _ => 0
  | m + 1, u => sg k F b m (u / k) + F (b + m) * (u % k)
theorem vs_sg (k : Nat) (F : Nat → Nat) : ∀ (i r v : Nat), vs k F i r v = v + sg k F 0 i r
  | 0, _, _ => rfl
  | i + 1, r, v => by
    show vs k F i (r / k) (v + F i * (r % k)) = v + (sg k F 0 i (r / k) + F (0 + i) * (r % k))
    rw [vs_sg k F i, Nat.zero_add]
    omega
theorem sg_top {k : Nat} (F : Nat → Nat) (hk : 0 < k) (b : Nat) : ∀ (m u : Nat), u < k ^ (m + 1) → sg k F b (m + 1) u = F b * (u / k ^ m) + sg k F (b + 1) m (u % k ^ m)
  | 0, u, hu => by
    have hu2 : u < k := by rw [Nat.pow_succ, Nat.pow_zero, Nat.one_mul] at hu; exact hu
    show 0 + F (b + 0) * (u % k) = F b * (u / k ^ 0) + 0
    rw [Nat.pow_zero, Nat.div_one, Nat.mod_eq_of_lt hu2, Nat.zero_add, Nat.add_zero, Nat.add_zero]
  | m + 1, u, hu => by
    have hu2 : u / k < k ^ (m + 1) := by
      rw [Nat.div_lt_iff_lt_mul hk, ← Nat.pow_succ]
      exact hu
    have ih := sg_top F hk b m (u / k) hu2
    show sg k F b (m + 1) (u / k) + F (b + (m + 1)) * (u % k) = F b * (u / k ^ (m + 1)) + (sg k F (b + 1) m (u % k ^ (m + 1) / k) + F (b + 1 + m) * (u % k ^ (m + 1) % k))
    have e1 : u / k / k ^ m = u / k ^ (m + 1) := by rw [Nat.div_div_eq_div_mul, Nat.mul_comm, ← Nat.pow_succ]
    have e2 : u % k ^ (m + 1) / k = u / k % k ^ m := by rw [Nat.pow_succ, Nat.mod_mul_left_div_self]
    have e3 : u % k ^ (m + 1) % k = u % k := Nat.mod_mod_of_dvd u ⟨k ^ m, by rw [Nat.pow_succ, Nat.mul_comm]⟩
    rw [ih, e1, e2, e3, show b + 1 + m = b + (m + 1) by omega]
    omega
def cg (k : Nat) (F : Nat → Nat) (s n : Nat) : Nat → Nat → Nat
  | 0, _ => s
  | m + 1, u => (cg k F s n m (u % k ^ m) + F (n - 1 - m) * (u / k ^ m)) % k
theorem cg_lt {k : Nat} {F : Nat → Nat} {s n : Nat} (hk : 0 < k) (hs : s < k) : ∀ m u, cg k F s n m u < k
  | 0, _ => hs
  | m + 1, _ => Nat.mod_lt _ hk
theorem cg_sg {k : Nat} {F : Nat → Nat} {s n : Nat} (hk : 0 < k) (hs : s < k) : ∀ m u, m ≤ n → u < k ^ m → cg k F s n m u = (s + sg k F (n - m) m u) % k
  | 0, u, _, _ => by
    show s = (s + 0) % k
    rw [Nat.add_zero, Nat.mod_eq_of_lt hs]
  | m + 1, u, hm, hu => by
    have ih := cg_sg (F := F) (n := n) hk hs m (u % k ^ m) (by omega) (Nat.mod_lt _ (Nat.pow_pos hk))
    show (cg k F s n m (u % k ^ m) + F (n - 1 - m) * (u / k ^ m)) % k = _
    rw [ih, sg_top F hk (n - (m + 1)) m u hu, show n - (m + 1) + 1 = n - m by omega, show n - 1 - m = n - (m + 1) by omega, Nat.mod_add_mod]
    congr 1
    omega
theorem cg_vs {k n s w : Nat} {F : Nat → Nat} (hk : 0 < k) (hs : s < k) (hw : w < k ^ n) : cg k F s n n w = vs k F n w s % k := by
  rw [cg_sg hk hs n w (Nat.le_refl n) hw, vs_sg, Nat.sub_self]
theorem cg_low {k n s m u : Nat} {F : Nat → Nat} (hk : 0 < k) (hs : s < k) (hu : u < k ^ m) : cg k F s n (m + 1) u = cg k F s n m u := by
  show (cg k F s n m (u % k ^ m) + F (n - 1 - m) * (u / k ^ m)) % k = _
  rw [Nat.mod_eq_of_lt hu, Nat.div_eq_of_lt hu, Nat.mul_zero, Nat.add_zero, Nat.mod_eq_of_lt (cg_lt hk hs m u)]
section LD
variable {G : gx} {k n s : Nat} {F : Nat → Nat} {e s1 s2 c s3 : Int32} {ff pw : Nat → Int32}
theorem C_fillComing {h : ah} {ld0 : Nat → Int32} (ok : okW k n) (hF : okF k F) (hs : s < k) (g3 : h 3 = cW k n) (g4 : h 4 = aI 15 pw) (hp : isP k n pw) (g9 : h 9 = cR (nI s) e s1 s2 c s3) (g10 : h 10 = aI 14 ff) (hff : isF F ff) (g13 : h 13 = aI 20000 ld0) {d : Nat} : Ct G mX2_fillComing d 0 0 [.ref 9] h (fun r h2 => r = none ∧ (∃ l2, h2 13 = aI 20000 l2 ∧ ∀ u, u < k ^ n → l2 u = nI (cg k F s n n u)) ∧ Fr [13] h h2) := by
  have hl := ok.le (Nat.le_refl n)
  have hk := ok.pos
  obtain ⟨hk2, hk5, hn, hn2, -⟩ := id ok
  generalize hQ : (fun (r : Option Value) (h2 : ah) => r = none ∧ (∃ l2, h2 13 = aI 20000 l2 ∧ ∀ u, u < k ^ n → l2 u = nI (cg k F s n n u)) ∧ Fr [13] h h2) = Q
  have stage : ∀ i m, i + m = n → (∀ (h1 : ah) (l1 : Nat → Int32), h1 13 = aI 20000 l1 → (∀ u, u < k ^ m → l1 u = nI (cg k F s n m u)) → Fr [13] h h1 → V G mX2_fillComing (b0 d) 20 [some (.ref 9), some (.int (nI i - 1))] [] h1 Q) := by
    intro i
    induction i with
    | zero =>
      intro m hm h1 l1 a13 hl1 hfr
      have hneg : nI 0 - 1 < 0 := by decide
      have hmn : m = n := by omega
      subst hmn
      refine tX2_fillComing_20 ((hfr 9 (by decide)).trans g9) ((hfr 3 (by decide)).trans g3) ((hfr 4 (by decide)).trans g4) (fun _ => ?_) (fun q => absurd hneg q) (fun q => absurd hneg q)
      rw [← hQ]
      exact ⟨rfl, ⟨l1, a13, hl1⟩, hfr⟩
    | succ i ih =>
      intro m hm h1 l1 a13 hl1 hfr
      have hpm := ok.le (i := m) (by omega)
      have hpos := ok.pp m
      have hpm1 := ok.le (i := m + 1) (by omega)
      have e0 : nI (i + 1) - 1 = nI i := nI_pred i
      have e1 : nI n - 1 - nI i = nI m := by
        rw [show nI n - (1 : Int32) = nI (n - 1) from pk_sub (b := 1) hn, pk_sub (by omega), show n - 1 - i = m by omega]
      rw [e0]
      refine tX2_fillComing_20 ((hfr 9 (by decide)).trans g9) ((hfr 3 (by decide)).trans g3) ((hfr 4 (by decide)).trans g4) (fun q => absurd q (nI_pos (by omega))) (fun _ => by rw [e1]; exact vp_in_nI (by omega) (by decide)) (fun _ => ?_)
      rw [e1, nI_clamp (by omega), hp m (by omega)]
      have letters : ∀ q v (h2 : ah) (l2 : Nat → Int32), v + q = k → 1 ≤ v → h2 13 = aI 20000 l2 → (∀ u, u < v * k ^ m → l2 u = nI (cg k F s n (m + 1) u)) → Fr [13] h h2 → V G mX2_fillComing (b0 d) 46 [some (.ref 9), some (.int (nI i)), some (.int (nI (k ^ m))), some (.int (nI v))] [] h2 Q := by
        intro q
        induction q with
        | zero =>
          intro v h2 l2 hv hv1 a2 hl2 hfr2
          have hvk : v = k := by omega
          subst hvk
          refine tX2_fillComing_46 ((hfr2 9 (by decide)).trans g9) ((hfr2 3 (by decide)).trans g3) ((hfr2 10 (by decide)).trans g10) (fun _ => ?_) (fun z => absurd (nI_le (by omega) (by omega)) z) (fun z => absurd (nI_le (by omega) (by omega)) z)
          have e2 : nI i + (-1 : Int32) = nI i - 1 := by rw [Int32.sub_eq_add_neg]
          rw [e2]
          refine ih (m + 1) (by omega) h2 l2 a2 (fun u hu => hl2 u ?_) hfr2
          rw [Nat.mul_comm, ← Nat.pow_succ]
          exact hu
        | succ q ihq =>
          intro v h2 l2 hv hv1 a2 hl2 hfr2
          have hvk : v < k := by omega
          have hvm : (v + 1) * k ^ m ≤ 20000 := by
            have : (v + 1) * k ^ m ≤ k * k ^ m := Nat.mul_le_mul_right _ (by omega)
            rw [Nat.mul_comm k, ← Nat.pow_succ] at this
            exact Nat.le_trans this hpm1
          have hvp : k ^ m ≤ v * k ^ m := Nat.le_mul_of_pos_left _ hv1
          rw [Nat.add_mul, Nat.one_mul] at hvm
          refine tX2_fillComing_46 ((hfr2 9 (by decide)).trans g9) ((hfr2 3 (by decide)).trans g3) ((hfr2 10 (by decide)).trans g10) (fun z => absurd z (nI_ge (by omega) (by omega))) (fun _ => vp_in_nI (by omega) (by decide)) (fun _ => ?_)
          rw [nI_clamp (by omega), hff i (by omega), pk_mul]
          have words : ∀ p w (h3 : ah) (l3 : Nat → Int32), w + p = k ^ m → h3 13 = aI 20000 l3 → (∀ u, u < v * k ^ m + w → l3 u = nI (cg k F s n (m + 1) u)) → Fr [13] h h3 → V G mX2_fillComing (b0 d) 70 [some (.ref 9), some (.int (nI i)), some (.int (nI (k ^ m))), some (.int (nI v)), some (.int (nI (F i * v))), some (.int (nI w))] [] h3 Q := by
            intro p
            induction p with
            | zero =>
              intro w h3 l3 hw a3 hl3 hfr3
              refine tX2_fillComing_70 ((hfr3 9 (by decide)).trans g9) a3 ((hfr3 3 (by decide)).trans g3) (fun _ => ?_) (fun z => absurd (nI_le (by omega) (by omega)) z) (fun z => absurd (nI_le (by omega) (by omega)) z) (fun z => absurd (nI_le (by omega) (by omega)) z) (fun z => absurd (nI_le (by omega) (by omega)) z)
              rw [nI_1]
              refine ihq (v + 1) h3 l3 (by omega) (by omega) a3 (fun u hu => hl3 u ?_) hfr3
              rw [Nat.add_mul, Nat.one_mul] at hu
              omega
            | succ p ihp =>
              intro w h3 l3 hw a3 hl3 hfr3
              have hwm : w < k ^ m := by omega
              have hFi := hF i (by omega)
              have hcl := cg_lt (F := F) (s := s) (n := n) hk hs m w
              have hlw : l3 w = nI (cg k F s n m w) := by rw [hl3 w (by omega), cg_low hk hs hwm]
              have hFv : F i * v ≤ 25 := Nat.le_trans (Nat.mul_le_mul (by omega : F i ≤ 5) (by omega : v ≤ 5)) (by decide)
              refine tX2_fillComing_70 ((hfr3 9 (by decide)).trans g9) a3 ((hfr3 3 (by decide)).trans g3) (fun z => absurd z (nI_ge (by omega) (by omega))) (fun _ => vp_in_nI (by omega) (by decide)) (fun _ => nI_n0 hk (by omega)) (fun _ => by rw [pk_mul, nI_add]; exact vp_in_nI (by omega) (by decide)) (fun _ => ?_)
              rw [pk_mul, nI_add, nI_clamp (n := v * k ^ m + w) (by omega), nI_clamp (by omega), hlw, nI_add, pk_rem (by omega) hk (by omega), nI_1]
              have hdm := dm_u (q := v) (r := w) (M := k ^ m) hwm rfl
              have hval : (cg k F s n m w + F i * v) % k = cg k F s n (m + 1) (v * k ^ m + w) := by
                show _ = (cg k F s n m ((v * k ^ m + w) % k ^ m) + F (n - 1 - m) * ((v * k ^ m + w) / k ^ m)) % k
                rw [hdm.1, hdm.2, show n - 1 - m = i by omega]
              rw [hval]
              refine ihp (w + 1) _ (upd l3 (v * k ^ m + w) (nI (cg k F s n (m + 1) (v * k ^ m + w)))) (by omega) rfl (fun u hu => ?_) (hfr3.up (by decide))
              by_cases huw : u = v * k ^ m + w
              · subst huw; exact pk_us
              · rw [pk_un huw]; exact hl3 u (by omega)
          exact words (k ^ m) 0 h2 l2 (by omega) a2 (fun u hu => hl2 u (by omega)) hfr2
      exact letters (k - 1) 1 h1 l1 (by omega) (Nat.le_refl _) a13 (fun u hu => by rw [Nat.one_mul] at hu; rw [hl1 u hu, cg_low hk hs hu]) hfr
  refine Ct_of (by decide +kernel) (Nat.le_of_ble_eq_true rfl) (tX2_fillComing_0 g9 g13 g3 (vp_in_nI (n := 0) (by decide) (by decide)) ?_)
  refine stage n 0 (by omega) _ (upd ld0 (0 : Int32).toNatClampNeg (nI s)) rfl (fun u hu => ?_) (Fr.rf.up (by decide))
  rw [show u = 0 by rw [Nat.pow_zero] at hu; omega]
  exact pk_us
end LD
