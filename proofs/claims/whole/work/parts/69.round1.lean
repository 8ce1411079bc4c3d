/-! ROUNDS: places; the round of a cycle -/
/-- places, written from place p on -/
def plw (W : Nat → Nat) : Nat → Nat → (Nat → Int32) → (Nat → Int32)
  | 0, _, f => f
  | m + 1, p, f => plw W m (p + 1) (upd f (W p) (nI p))
theorem plw_cg {W W2 : Nat → Nat} : ∀ m p f, (∀ j, p ≤ j → j < p + m → W j = W2 j) → plw W m p f = plw W2 m p f
  | 0, _, _, _ => rfl
  | m + 1, p, f, h => by
    show plw W m (p + 1) (upd f (W p) (nI p)) = plw W2 m (p + 1) (upd f (W2 p) (nI p))
    rw [h p (Nat.le_refl _) (by omega)]
    exact plw_cg m (p + 1) _ (fun j h1 h2 => h j (by omega) (by omega))
theorem wv_top {k L i : Nat} {v : Nat → Nat} : ∀ j, wv k v L i (j + 1) = v (i % L) * k ^ j + wv k v L (i + 1) j
  | 0 => by
    show 0 * k + v ((i + 0) % L) = v (i % L) * k ^ 0 + 0
    rw [Nat.zero_mul, Nat.zero_add, Nat.add_zero, Nat.pow_zero, Nat.mul_one, Nat.add_zero]
  | j + 1 => by
    have ih := wv_top (k := k) (L := L) (i := i) (v := v) j
    show wv k v L i (j + 1) * k + v ((i + (j + 1)) % L) = v (i % L) * k ^ (j + 1) + (wv k v L (i + 1) j * k + v ((i + 1 + j) % L))
    rw [ih, Nat.add_mul, Nat.mul_assoc, ← Nat.pow_succ, Nat.add_assoc, show i + (j + 1) = i + 1 + j by omega]
theorem wv_next {k n L i : Nat} {v : Nat → Nat} (hn : 1 ≤ n) (hL : 0 < L) (hv : ∀ j, j < L → v j < k) : wv k v L (i + 1) n = wv k v L i n % k ^ (n - 1) * k + v ((i + n) % L) := by
  obtain ⟨m, rfl⟩ : ∃ m, n = m + 1 := ⟨n - 1, by omega⟩
  rw [Nat.add_sub_cancel, wv_top (i := i) m, Nat.add_comm (v (i % L) * k ^ m), Nat.add_mul_mod_self_right, Nat.mod_eq_of_lt (wv_lt hL hv m), show i + (m + 1) = i + 1 + m by omega]
  rfl
/-- the letters of the words that follow each other make these words -/
theorem wv_cyc {k n N : Nat} {x : Nat → Nat} (hk : 0 < k) (hn : 1 ≤ n) (hN : N = k ^ n) (hx : ∀ i, x i < k ^ n) (hs : ∀ i, x (i + 1) / k = x i % k ^ (n - 1)) (hper : ∀ i, x (i % N) = x i) (i : Nat) : wv k (fun j => x j / k ^ (n - 1)) N i n = x i := by
  have dig : ∀ j e, e + j ≤ n - 1 → x i / k ^ e % k = x (i + j) / k ^ (e + j) % k := by
    intro j
    induction j with
    | zero => intro e _; rfl
    | succ j ih =>
      intro e he
      rw [ih e (by omega)]
      have hp : 0 < k ^ (e + j) := Nat.pow_pos hk
      have e1 : x (i + j) / k ^ (e + j) % k = x (i + j) % k ^ (n - 1) / k ^ (e + j) % k := by
        have hd : k ^ (n - 1) = k ^ (e + j) * (k * k ^ (n - 1 - (e + j) - 1)) := by
          rw [← Nat.pow_succ', ← Nat.pow_add]
          congr 1
          omega
        rw [hd, Nat.mod_mul_right_div_self, Nat.mod_mul_right_mod]
      rw [e1, ← hs (i + j), Nat.div_div_eq_div_mul, ← Nat.pow_succ', show i + (j + 1) = i + j + 1 by omega, show e + (j + 1) = (e + j).succ by omega]
  have key : ∀ j, j ≤ n → wv k (fun j => x j / k ^ (n - 1)) N i j = x i / k ^ (n - j) := by
    intro j
    induction j with
    | zero => intro _; rw [Nat.sub_zero, Nat.div_eq_of_lt (hx i)]; rfl
    | succ j ih =>
      intro hj
      show wv k (fun j => x j / k ^ (n - 1)) N i j * k + x ((i + j) % N) / k ^ (n - 1) = _
      rw [ih (by omega), hper]
      have e1 := dig j (n - (j + 1)) (by omega)
      rw [show n - (j + 1) + j = n - 1 by omega] at e1
      have hlt : x (i + j) / k ^ (n - 1) < k := by
        rw [Nat.div_lt_iff_lt_mul (Nat.pow_pos hk), Nat.mul_comm, ← pow_n1 hn]
        exact hx _
      rw [Nat.mod_eq_of_lt hlt] at e1
      rw [← e1, show n - j = (n - (j + 1)).succ by omega, Nat.pow_succ, ← Nat.div_div_eq_div_mul, Nat.mul_comm, Nat.div_add_mod]
  have := key n (Nat.le_refl _)
  rw [Nat.sub_self, Nat.pow_zero, Nat.div_one] at this
  exact this
theorem cyc_per {N : Nat} {T : Nat → Nat} (h : pm N T) (h0 : 0 < N) (ha : ∀ x, x < N → rel T 0 x) : itr T N 0 = 0 := by
  obtain ⟨p, hp, hmin⟩ := per h h0
  have hc := cyc_cs h h0 hp hmin (S := fun _ => true) (fun y hy => ⟨fun _ => ha y hy, fun _ => rfl⟩)
  have key : ∀ M, cs (fun _ => true) M = M := by
    intro M
    induction M with
    | zero => rfl
    | succ M ih =>
      show cs (fun _ => true) M + 1 = M + 1
      rw [ih]
  rw [key N] at hc
  rw [hc]
  exact hp.2.2
theorem itr_mod {T : Nat → Nat} {N x : Nat} (hp : itr T N x = x) (i : Nat) : itr T (i % N) x = itr T i x := by
  have := Nat.div_add_mod i N
  calc itr T (i % N) x = itr T (i % N + i / N * N) x := by rw [itr_add, itr_mul hp]
    _ = _ := by rw [Nat.mul_comm (i / N), Nat.add_comm, this]
theorem cyc_wv {k n : Nat} {T : Nat → Nat} (ok : okW k n) (h : pm (k ^ n) T) (ht : okT k n T) (hq : nQ T (k ^ n) = 1) (i : Nat) : wv k (fun j => itr T j 0 / k ^ (n - 1)) (k ^ n) i n = itr T i 0 := by
  have hN := ok.le (Nat.le_refl n)
  have h0 := ok.pp n
  have hp := cyc_per h h0 ((nQ_1 h hN h0).mp hq)
  exact wv_cyc (x := fun j => itr T j 0) ok.pos ok.2.2.1 rfl (fun i => itr_lt h h0 i) (fun i => (ht _ (itr_lt h h0 i)).2) (fun i => itr_mod hp i) i
theorem nar_b : ∀ v, v < 5 → vp_nar .byte ((nI v).toInt8.toInt32) = nI v := by decide +kernel
section RD2
variable {G : gx} {h : ah} {k n : Nat} {T : Nat → Nat}
theorem hi_lt {k n w : Nat} (ok : okW k n) (hw : w < k ^ n) : w / k ^ (n - 1) < k := by
  rw [Nat.div_lt_iff_lt_mul (ok.pp (n - 1)), Nat.mul_comm, ← pow_n1 ok.2.2.1]
  exact hw
theorem C_becomeCycle {kd fm : Int32} {rl pl l0 : Nat → Int32} (ok : okW k n) (hT : ∀ w, w < k ^ n → T w < k ^ n) (g3 : h 3 = cW k n) (g13 : h 13 = aI 20000 l0) (hl : ∀ w, w < k ^ n → l0 w = nI (T w)) (g17 : h 17 = cO kd fm) (g18 : h 18 = aB 20000 rl) (g19 : h 19 = aI 20000 pl) {d : Nat} : Ct G mX4_becomeCycle d 0 0 [.ref 17, .ref 13] h (fun r h2 => r = none ∧ h2 17 = cO 2 fm ∧ (∃ r2, h2 18 = aB 20000 r2 ∧ ∀ j, j < k ^ n → r2 j = nI (itr T j 0 / k ^ (n - 1))) ∧ h2 19 = aI 20000 (plw (fun j => itr T j 0) (k ^ n) 0 pl) ∧ Fr [17, 18, 19] h h2) := by
  have hN := ok.le (Nat.le_refl n)
  have hk5 := ok.2.1
  have h0 := ok.pp n
  have hp := ok.pp (n - 1)
  have hhi := ok.le (i := n - 1) (by omega)
  have hit : ∀ i, itr T i 0 < k ^ n := by
    intro i
    induction i with
    | zero => exact h0
    | succ i ih => exact hT _ ih
  generalize hQ : (fun (r : Option Value) (h2 : ah) => r = none ∧ h2 17 = cO 2 fm ∧ (∃ r2, h2 18 = aB 20000 r2 ∧ ∀ j, j < k ^ n → r2 j = nI (itr T j 0 / k ^ (n - 1))) ∧ h2 19 = aI 20000 (plw (fun j => itr T j 0) (k ^ n) 0 pl) ∧ Fr [17, 18, 19] h h2) = Q
  have key : ∀ m i (hh : ah) (r2 p2 : Nat → Int32), i + m = k ^ n → hh 18 = aB 20000 r2 → (∀ j, j < i → r2 j = nI (itr T j 0 / k ^ (n - 1))) → hh 19 = aI 20000 p2 → plw (fun j => itr T j 0) m i p2 = plw (fun j => itr T j 0) (k ^ n) 0 pl → Fr [18, 19] h hh → V G mX4_becomeCycle (b0 d) 4 [some (.ref 17), some (.ref 13), some (.int (nI (itr T i 0))), some (.int (nI i))] [] hh Q := by
    intro m
    induction m with
    | zero =>
      intro i hh r2 p2 hi c18 cr c19 cp cf
      have kle : nI (k ^ n) ≤ nI i := nI_le (by omega) (by omega)
      refine tX4_becomeCycle_4 (p1 := 11) ((cf 17 (by decide)).trans g17) ((cf 3 (by decide)).trans g3) c18 c19 ((cf 13 (by decide)).trans g13) (by decide) (by decide) (fun _ => ?_) (fun z => absurd kle z) (fun z => absurd kle z) (fun z => absurd kle z) (fun z => absurd kle z) (fun z => absurd kle z)
      rw [← hQ]
      refine ⟨rfl, up_s _ _ _, ⟨r2, (up_n _ _ (by decide)).trans c18, fun j hj => cr j (by omega)⟩, ?_, (cf.mono (by decide)).up (by decide)⟩
      rw [← cp]
      exact (up_n _ _ (by decide)).trans c19
    | succ m ih =>
      intro i hh r2 p2 hi c18 cr c19 cp cf
      have hti := hit i
      have hlt := hi_lt ok hti
      refine tX4_becomeCycle_4 (p1 := 11) ((cf 17 (by decide)).trans g17) ((cf 3 (by decide)).trans g3) c18 c19 ((cf 13 (by decide)).trans g13) (by decide) (by decide) (fun z => absurd z (nI_ge (by omega) (by omega))) (fun _ => nI_n0 hp hhi) (fun _ => vp_in_nI (by omega) (by decide)) (fun _ => vp_in_nI (by omega) (by decide)) (fun _ => vp_in_nI (by omega) (by decide)) (fun _ => ?_)
      rw [pk_div (by omega) hp (by omega), nar_b _ (by omega), nI_clamp (n := itr T i 0) (by omega), nI_clamp (n := i) (by omega), hl _ hti, nI_1]
      refine ih (i + 1) _ (upd r2 i (nI (itr T i 0 / k ^ (n - 1)))) (upd p2 (itr T i 0) (nI i)) (by omega) ((up_n _ _ (by decide)).trans (up_s _ _ _)) (fun j hj => ?_) (up_s _ _ _) cp ((cf.up (by decide)).up (by decide))
      by_cases hji : j = i
      · rw [hji, pk_us]
      · rw [pk_un hji]; exact cr j (by omega)
  refine Ct_of (by decide +kernel) (Nat.le_of_ble_eq_true rfl) (tX4_becomeCycle_0 (p1 := 11) ?_)
  exact key (k ^ n) 0 h rl pl (by omega) g18 (fun j hj => absurd hj (Nat.not_lt_zero j)) g19 rfl Fr.rf
theorem C_findPlaces {kd fm : Int32} {rl pl : Nat → Int32} {rr : Nat → Nat} (ok : okW k n) (hnN : n < k ^ n) (g3 : h 3 = cW k n) (g17 : h 17 = cO kd fm) (g18 : h 18 = aB 20000 rl) (hr : ∀ j, j < k ^ n → rl j = nI (rr j) ∧ rr j < k) (hz : wv k rr (k ^ n) 0 n = 0) (g19 : h 19 = aI 20000 pl) {d : Nat} : Ct G mX4_findPlaces d 0 0 [.ref 17] h (fun r h2 => r = none ∧ h2 = va_up h 19 (aI 20000 (plw (fun i => wv k rr (k ^ n) i n) (k ^ n) 0 pl))) := by
  have hN := ok.le (Nat.le_refl n)
  have hk5 := ok.2.1
  have h0 := ok.pp n
  have hp := ok.pp (n - 1)
  have hhi := ok.le (i := n - 1) (by omega)
  have hv : ∀ j, j < k ^ n → rr j < k := fun j hj => (hr j hj).2
  have key : ∀ m i (p2 : Nat → Int32), i + m = k ^ n → plw (fun i => wv k rr (k ^ n) i n) m i p2 = plw (fun i => wv k rr (k ^ n) i n) (k ^ n) 0 pl → V G mX4_findPlaces (b0 d) 12 [some (.ref 17), some (.int (nI (wv k rr (k ^ n) i n))), some (.int (nI ((i + n) % k ^ n))), some (.int (nI i))] [] (va_up h 19 (aI 20000 p2)) (fun r h2 => r = none ∧ h2 = va_up h 19 (aI 20000 (plw (fun i => wv k rr (k ^ n) i n) (k ^ n) 0 pl))) := by
    intro m
    induction m with
    | zero =>
      intro i p2 hi cp
      have kle : nI (k ^ n) ≤ nI i := nI_le (by omega) (by omega)
      refine tX4_findPlaces_12 ((up_n _ _ (by decide)).trans g17) ((up_n _ _ (by decide)).trans g3) (up_s _ _ _) ((up_n _ _ (by decide)).trans g18) (fun _ => ⟨rfl, ?_⟩) (fun z => absurd kle z) (fun z => absurd kle z) (fun z => absurd kle z) (fun z => absurd kle z) (fun z => absurd kle z)
      rw [← cp]
      rfl
    | succ m ih =>
      intro i p2 hi cp
      have hw := wv_lt (i := i) h0 hv n
      have hc := Nat.mod_lt (i + n) h0
      obtain ⟨r1, r2⟩ := hr _ hc
      have hmd := Nat.mod_lt (wv k rr (k ^ n) i n) hp
      have en : ((nI (wv k rr (k ^ n) i n) - nI (wv k rr (k ^ n) i n) / nI (k ^ (n - 1)) * nI (k ^ (n - 1))) * nI k) + rl (nI ((i + n) % k ^ n)).toNatClampNeg = nI (wv k rr (k ^ n) (i + 1) n) := by
        rw [pk_rem (by omega) hp (by omega), pk_mul, nI_clamp (by omega), r1, nI_add, wv_next ok.2.2.1 h0 hv]
      have hs := rd_next (p := i + n) h0
      rw [show i + n + 1 = i + 1 + n by omega] at hs
      refine tX4_findPlaces_12 ((up_n _ _ (by decide)).trans g17) ((up_n _ _ (by decide)).trans g3) (up_s _ _ _) ((up_n _ _ (by decide)).trans g18) (fun z => absurd z (nI_ge (by omega) (by omega))) (fun _ => vp_in_nI (by omega) (by decide)) (fun _ => nI_n0 hp hhi) (fun _ => vp_in_nI (by omega) (by decide)) (fun _ z => ?_) (fun _ z => ?_)
      · rw [nI_1, nI_leI (by omega) (by omega)] at z
        rw [if_neg (by omega)] at hs
        rw [en, nI_1, nI_clamp (n := wv k rr (k ^ n) i n) (by omega), bx_uu]
        have := ih (i + 1) (upd p2 (wv k rr (k ^ n) i n) (nI i)) (by omega) cp
        rw [hs] at this
        exact this
      · rw [nI_1, nI_leI (by omega) (by omega)] at z
        rw [if_pos (by omega)] at hs
        rw [en, nI_1, nI_1, nI_clamp (n := wv k rr (k ^ n) i n) (by omega), bx_uu]
        have := ih (i + 1) (upd p2 (wv k rr (k ^ n) i n) (nI i)) (by omega) cp
        rw [hs] at this
        exact this
  refine Ct_of (by decide +kernel) (Nat.le_of_ble_eq_true rfl) (tX4_findPlaces_0 g17 g3 ?_)
  have := key (k ^ n) 0 pl (by omega) rfl
  rw [up_id g19, hz, Nat.zero_add, Nat.mod_eq_of_lt hnN] at this
  exact this
end RD2
section MR
variable {G : gx} {k n : Nat} {ms mx mc mw ml mf mp mg : Int32}
/-- the reference's places, of letters that stand -/
theorem M_placesV {h1 : ah} {x : Int32} {b : bg} {rl pl : Nat → Int32} {rr : Nat → Nat} {Q : Option Value → ah → Prop} (ok : okW k n) (g42 : h1 42 = cM (nI k) (nI n) (nI (k ^ n)) ms mx mc mw ml mf mp mg) (g53 : h1 53 = aI 20000 rl) (hr : ∀ j, j < k ^ n → rl j = nI (rr j) ∧ rr j < k) (g54 : h1 54 = aI 20000 pl) (kQ : Q (some (.int (nI (k ^ n)))) (va_up h1 54 (aI 20000 (plw (fun i => wv k rr (k ^ n) i n) (k ^ n) 0 pl)))) : V G mX8_round b 117 [some (.ref 42), some (.int x), some (.int 0)] [] h1 Q := by
  have hN := ok.le (Nat.le_refl n)
  have hk5 := ok.2.1
  have hn2 := ok.2.2.2.1
  have h0 := ok.pp n
  have hv : ∀ j, j < k ^ n → rr j < k := fun j hj => (hr j hj).2
  have out : ∀ m p (p2 : Nat → Int32), p + m = k ^ n → plw (fun i => wv k rr (k ^ n) i n) m p p2 = plw (fun i => wv k rr (k ^ n) i n) (k ^ n) 0 pl → V G mX8_round b 117 [some (.ref 42), some (.int x), some (.int (nI p))] [] (va_up h1 54 (aI 20000 p2)) Q := by
    intro m
    induction m with
    | zero =>
      intro p p2 hp cp
      refine tX8_round_117 ((up_n _ _ (by decide)).trans g42) (fun _ => ?_) (fun z => absurd (nI_le (by omega) (by omega)) z)
      rw [← cp] at kQ
      exact kQ
    | succ m ih =>
      intro p p2 hp cp
      refine tX8_round_117 ((up_n _ _ (by decide)).trans g42) (fun z => absurd z (nI_ge (by omega) (by omega))) (fun _ => ?_)
      have inn : ∀ q j, j + q = n → V G mX8_round b 130 [some (.ref 42), some (.int x), some (.int (nI p)), some (.int (nI (wv k rr (k ^ n) p j))), some (.int (nI j))] [] (va_up h1 54 (aI 20000 p2)) Q := by
        intro q
        induction q with
        | zero =>
          intro j hj
          have hjn : j = n := by omega
          have hw := wv_lt (i := p) h0 hv n
          have kle : nI n ≤ nI j := nI_le (by omega) (by omega)
          refine tX8_round_130 ((up_n _ _ (by decide)).trans g42) (up_s _ _ _) ((up_n _ _ (by decide)).trans g53) (fun _ => by rw [hjn]; exact vp_in_nI (by omega) (by decide)) (fun _ => ?_) (fun z => absurd kle z) (fun z => absurd kle z) (fun z => absurd kle z)
          rw [hjn, nI_1, nI_clamp (by omega), bx_uu]
          exact ih (p + 1) _ (by omega) cp
        | succ q ihq =>
          intro j hj
          have hm := Nat.mod_lt (p + j) h0
          have nle : ¬ nI n ≤ nI j := nI_ge (by omega) (by omega)
          have em : (nI p + nI j) - (nI p + nI j) / nI (k ^ n) * nI (k ^ n) = nI ((p + j) % k ^ n) := by rw [nI_add, pk_rem (by omega) h0 (by omega)]
          refine tX8_round_130 ((up_n _ _ (by decide)).trans g42) (up_s _ _ _) ((up_n _ _ (by decide)).trans g53) (fun z => absurd z nle) (fun z => absurd z nle) (fun _ => nI_n0 h0 hN) (fun _ => by rw [em]; exact vp_in_nI (by omega) (by decide)) (fun _ => ?_)
          rw [em, nI_clamp (by omega), (hr _ hm).1, pk_mul, nI_add, nI_1]
          exact ihq (j + 1) (by omega)
      exact inn n 0 (by omega)
  have := out (k ^ n) 0 pl (by omega) rfl
  rw [up_id g54] at this
  exact this
end MR
