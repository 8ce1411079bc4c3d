/-! the greedy round: letters; both answers -/
theorem n_lt_pow {k : Nat} (hk : 2 ≤ k) : ∀ n, n < k ^ n
  | 0 => by rw [Nat.pow_zero]; exact Nat.one_pos
  | n + 1 => by
    have ih := n_lt_pow hk n
    rw [Nat.pow_succ]
    have : k ^ n * 2 ≤ k ^ n * k := Nat.mul_le_mul_left _ hk
    omega
theorem gW_k {k n i : Nat} (hk : 2 ≤ k) : gW k (k ^ (n - 1)) (i + 1) / k = gW k (k ^ (n - 1)) i % k ^ (n - 1) := by
  obtain ⟨p1, p2, -⟩ := pkl_ok (gS k (k ^ (n - 1)) i) (gW k (k ^ (n - 1)) i % k ^ (n - 1) * k) (k - 1)
  rw [← gW_s] at p1 p2
  have e : gW k (k ^ (n - 1)) (i + 1) = gW k (k ^ (n - 1)) i % k ^ (n - 1) * k + (gW k (k ^ (n - 1)) (i + 1) - gW k (k ^ (n - 1)) i % k ^ (n - 1) * k) := by omega
  exact (dm_u (M := k) (by omega) e).1
theorem gW_end {k n : Nat} (hk : 2 ≤ k) (hn : 1 ≤ n) : gW k (k ^ (n - 1)) (k ^ n - 1) % k ^ (n - 1) = 0 := by
  have hp : 0 < k ^ (n - 1) := Nat.pow_pos (by omega)
  have hN : k ^ n = k ^ (n - 1) * k := pow_n1 hn
  have h0 : 0 < k ^ n := Nat.pow_pos (by omega)
  obtain ⟨h1, h2, h3, h4, h5, -⟩ := gInv_all hk hn (k ^ n - 1) (by omega)
  have every := cs_full (S := gS k (k ^ (n - 1)) (k ^ n - 1)) (M := k ^ (n - 1) * k) (by omega)
  have hc : gW k (k ^ (n - 1)) (k ^ n - 1) % k ^ (n - 1) < k ^ (n - 1) := Nat.mod_lt _ hp
  have hb := h5 _ hc
  generalize gW k (k ^ (n - 1)) (k ^ n - 1) % k ^ (n - 1) = c at hb hc
  have o1 : oV k (gS k (k ^ (n - 1)) (k ^ n - 1)) c = k := cs_all k (fun l hl => every _ (dm_lt hc hl))
  have o2 : iV k (k ^ (n - 1)) (gS k (k ^ (n - 1)) (k ^ n - 1)) c = k := cs_all k (fun a ha => every _ (by rw [Nat.mul_comm (k ^ (n - 1))]; exact dm_lt ha hc))
  rw [o1, o2, e01, e01, if_pos rfl] at hb
  exact Decidable.byContradiction (fun q => by rw [if_neg q] at hb; omega)
def gr (k n j : Nat) : Nat := if j < n then 0 else gW k (k ^ (n - 1)) (j - n + 1) % k
theorem wv_cg {k L i : Nat} {v v2 : Nat → Nat} (hL : 0 < L) (h : ∀ j, j < L → v j = v2 j) : ∀ j, wv k v L i j = wv k v2 L i j
  | 0 => rfl
  | j + 1 => by
    show wv k v L i j * k + v ((i + j) % L) = wv k v2 L i j * k + v2 ((i + j) % L)
    rw [wv_cg hL h j, h _ (Nat.mod_lt _ hL)]
theorem gr_hi {k n : Nat} (hk : 2 ≤ k) (hn : 1 ≤ n) : ∀ j, j < k ^ n → gW k (k ^ (n - 1)) j / k ^ (n - 1) = gr k n j := by
  have hp : 0 < k ^ (n - 1) := Nat.pow_pos (by omega)
  have hN : k ^ n = k ^ (n - 1) * k := pow_n1 hn
  have small : ∀ t, t ≤ n - 1 → gW k (k ^ (n - 1)) t < k ^ t := by
    intro t
    induction t with
    | zero => intro _; exact Nat.one_pos
    | succ t ih =>
      intro ht
      have h1 := ih (by omega)
      have h2 := gW_k (n := n) (i := t) hk
      rw [Nat.mod_eq_of_lt (Nat.lt_of_lt_of_le h1 (Nat.pow_le_pow_right (by omega) (by omega)))] at h2
      rw [Nat.pow_succ, ← Nat.div_lt_iff_lt_mul (by omega), h2]
      exact h1
  have dig : ∀ t i e, e + t ≤ n - 1 → gW k (k ^ (n - 1)) i / k ^ e % k = gW k (k ^ (n - 1)) (i + t) / k ^ (e + t) % k := by
    intro t
    induction t with
    | zero => intro i e _; rfl
    | succ t ih =>
      intro i e he
      rw [ih i e (by omega)]
      have e1 : gW k (k ^ (n - 1)) (i + t) / k ^ (e + t) % k = gW k (k ^ (n - 1)) (i + t) % k ^ (n - 1) / k ^ (e + t) % k := by
        have hd : k ^ (n - 1) = k ^ (e + t) * (k * k ^ (n - 1 - (e + t) - 1)) := by
          rw [← Nat.pow_succ', ← Nat.pow_add]
          congr 1
          omega
        conv => rhs; rw [show gW k (k ^ (n - 1)) (i + t) % k ^ (n - 1) = gW k (k ^ (n - 1)) (i + t) % (k ^ (e + t) * (k * k ^ (n - 1 - (e + t) - 1))) by rw [← hd]]
        rw [Nat.mod_mul_right_div_self, Nat.mod_mul_right_mod]
      rw [e1, ← gW_k hk, Nat.div_div_eq_div_mul, ← Nat.pow_succ', show i + (t + 1) = i + t + 1 by omega, show e + (t + 1) = (e + t).succ by omega]
  intro j hj
  have hlt : gW k (k ^ (n - 1)) j / k ^ (n - 1) < k := by
    rw [Nat.div_lt_iff_lt_mul hp, Nat.mul_comm]
    exact (gInv_all hk hn j (by omega)).1
  unfold gr
  by_cases hjn : j < n - 1
  · rw [if_pos (by omega), Nat.div_eq_of_lt (Nat.lt_of_lt_of_le (small j (by omega)) (Nat.pow_le_pow_right (by omega) (by omega)))]
  · have e := dig (n - 1) (j - (n - 1)) 0 (by omega)
    rw [Nat.zero_add, show j - (n - 1) + (n - 1) = j by omega, Nat.pow_zero, Nat.div_one, Nat.mod_eq_of_lt hlt] at e
    by_cases hj1 : j < n
    · rw [if_pos hj1, ← e, show j - (n - 1) = 0 by omega]
      exact Nat.zero_mod k
    · rw [if_neg hj1, ← e, show j - (n - 1) = j - n + 1 by omega]
theorem gr_wv {k n : Nat} (hk : 2 ≤ k) (hn : 1 ≤ n) {i : Nat} (hi : i < k ^ n) : wv k (gr k n) (k ^ n) i n = gW k (k ^ (n - 1)) i := by
  have hp : 0 < k ^ (n - 1) := Nat.pow_pos (by omega)
  have hN : k ^ n = k ^ (n - 1) * k := pow_n1 hn
  have h0 : 0 < k ^ n := Nat.pow_pos (by omega)
  have key := wv_cyc (k := k) (n := n) (N := k ^ n) (x := fun i => gW k (k ^ (n - 1)) (i % k ^ n)) (by omega) hn rfl (fun i => by rw [hN]; exact (gInv_all hk hn _ (by rw [← hN]; exact Nat.mod_lt _ h0)).1) (fun i => by
    have hm := Nat.mod_lt i h0
    show gW k (k ^ (n - 1)) ((i + 1) % k ^ n) / k = gW k (k ^ (n - 1)) (i % k ^ n) % k ^ (n - 1)
    rw [rd_next h0]
    by_cases hc : i % k ^ n + 1 < k ^ n
    · rw [if_pos hc]; exact gW_k hk
    · rw [if_neg hc, show i % k ^ n = k ^ n - 1 by omega, gW_end hk hn]
      exact Nat.zero_div k) (fun i => by show gW k (k ^ (n - 1)) (i % k ^ n % k ^ n) = _; rw [Nat.mod_mod]) i
  have e : gW k (k ^ (n - 1)) (i % k ^ n) = gW k (k ^ (n - 1)) i := by rw [Nat.mod_eq_of_lt hi]
  rw [← e, ← key]
  refine wv_cg h0 (fun j hj => ?_) n
  show gr k n j = gW k (k ^ (n - 1)) (j % k ^ n) / k ^ (n - 1)
  rw [Nat.mod_eq_of_lt hj, gr_hi hk hn j hj]
theorem gr_lt {k n : Nat} (hk : 2 ≤ k) (j : Nat) : gr k n j < k := by
  unfold gr
  split
  · omega
  · exact Nat.mod_lt _ (by omega)
theorem gS_ex {k n : Nat} : ∀ i w, gS k (k ^ (n - 1)) i w = true → ∃ j, j ≤ i ∧ gW k (k ^ (n - 1)) j = w
  | 0, w, h => ⟨0, Nat.le_refl _, (of_decide_eq_true h).symm⟩
  | i + 1, w, h => by
    rw [gS_s] at h
    unfold addS at h
    by_cases hw : w = gW k (k ^ (n - 1)) (i + 1)
    · exact ⟨i + 1, Nat.le_refl _, hw.symm⟩
    · rw [if_neg hw] at h
      obtain ⟨j, j1, j2⟩ := gS_ex i w h
      exact ⟨j, by omega, j2⟩
theorem plw_in {W : Nat → Nat} {w : Nat} : ∀ m p f g, (f w = g w ∨ ∃ j, p ≤ j ∧ j < p + m ∧ W j = w) → plw W m p f w = plw W m p g w
  | 0, p, f, g, h => by
    rcases h with h | ⟨j, h1, h2, -⟩
    · exact h
    · omega
  | m + 1, p, f, g, h => by
    show plw W m (p + 1) (upd f (W p) (nI p)) w = plw W m (p + 1) (upd g (W p) (nI p)) w
    refine plw_in m (p + 1) _ _ ?_
    by_cases hp : w = W p
    · rw [hp, pk_us, pk_us]; exact Or.inl rfl
    · rw [pk_un hp, pk_un hp]
      rcases h with h | ⟨j, h1, h2, h3⟩
      · exact Or.inl h
      · refine Or.inr ⟨j, ?_, by omega, h3⟩
        by_cases hjp : j = p
        · rw [hjp] at h3; exact absurd h3.symm hp
        · omega
theorem g_cov {k n : Nat} (hk : 2 ≤ k) (hn : 1 ≤ n) (pl : Nat → Int32) : plw (gW k (k ^ (n - 1))) (k ^ n) 0 (fl pl 0 (k ^ n) (-1)) = plw (gW k (k ^ (n - 1))) (k ^ n) 0 pl := by
  have hN : k ^ n = k ^ (n - 1) * k := pow_n1 hn
  have h0 : 0 < k ^ n := Nat.pow_pos (by omega)
  funext w
  refine plw_in (k ^ n) 0 _ _ ?_
  by_cases hw : w < k ^ n
  · have h4 := (gInv_all hk hn (k ^ n - 1) (by omega)).2.2.2.1
    have hs := cs_full (S := gS k (k ^ (n - 1)) (k ^ n - 1)) (M := k ^ (n - 1) * k) (by omega) w (by omega)
    obtain ⟨j, j1, j2⟩ := gS_ex _ _ hs
    exact Or.inr ⟨j, Nat.zero_le _, by omega, j2⟩
  · exact Or.inl (if_neg (by omega))
section GC
variable {G : gx} {h : ah} {k n : Nat}
theorem C_fillB {p N a b : Nat} {f : Nat → Int32} (gp : h (p + 2) = aB N f) (h1 : a ≤ b) (h2 : b ≤ N) (h3 : N < 2 ^ 31) : Ct G mJ7_fill_eb02e 1 0 0 [.ref (p + 2), .int (nI a), .int (nI b), .int 0] h (fun r h2 => r = none ∧ h2 = va_up h (p + 2) (aB N (fl f a b 0))) := by
  have key : ∀ m j, j + m = b → a ≤ j → V G mJ7_fill_eb02e (b0 1) 10 [some (.ref (p + 2)), some (.int (nI a)), some (.int (nI b)), some (.int 0), some (.int (nI j))] [] (va_up h (p + 2) (aB N (fl f a j 0))) (fun r h2 => r = none ∧ h2 = va_up h (p + 2) (aB N (fl f a b 0))) := by
    intro m
    induction m with
    | zero =>
      intro j hj ha
      exact tJ7_fill_eb02e_10 (up_s _ _ _) (fun _ => ⟨rfl, by rw [show j = b by omega]⟩) (fun e => absurd (nI_le (by omega) (by omega)) e) (fun e => absurd (nI_le (by omega) (by omega)) e)
    | succ m ih =>
      intro j hj ha
      refine tJ7_fill_eb02e_10 (up_s _ _ _) (fun e => absurd e (nI_ge (by omega) (by omega))) (fun _ => vp_in_nI (by omega) (by omega)) (fun _ => ?_)
      rw [nI_clamp (by omega), show vp_nar .byte (0 : Int32) = 0 by decide, fl_s f 0 ha, nI_1, bx_uu]
      exact ih (j + 1) (by omega) (by omega)
  refine Ct_of (by decide +kernel) (Nat.le_of_ble_eq_true rfl) (tJ7_fill_eb02e_0 gp ?_)
  refine cJ7_fill_eb02e_4 (C_range (d := 0) h1 h2 h3) ⟨by decide, by decide⟩ (Nat.le_of_ble_eq_true rfl) ⟨Nat.le_refl _, Nat.le_refl _⟩ (fun r h2 e => ?_)
  obtain ⟨rfl, e⟩ := e; replace e := e.symm; subst e
  refine tJ7_fill_eb02e_7 ?_
  have hh : va_up h (p + 2) (aB N (fl f a a 0)) = h := by rw [fl_0]; exact up_id gp
  have := key (b - a) a (by omega) (Nat.le_refl _)
  rw [hh] at this
  exact this
theorem C_greatestNew {kd fm : Int32} {pl : Nat → Int32} {S : Nat → Bool} {b : Nat} (ok : okW k n) (g3 : h 3 = cW k n) (g17 : h 17 = cO kd fm) (g19 : h 19 = aI 20000 pl) (hb : b + k ≤ k ^ n) (hS : ∀ w, w < k ^ n → (pl w = -1 ↔ S w = false)) {d : Nat} : Ct G mX4_greatestNew d 0 0 [.ref 17, .int (nI b)] h (Rv (.int (nI (pkl S b (k - 1)))) h) := by
  have hN := ok.le (Nat.le_refl n)
  have hk := ok.1
  have key : ∀ l, l ≤ k - 1 → pkl S b l = pkl S b (k - 1) → V G mX4_greatestNew (b0 d) 12 [some (.ref 17), some (.int (nI b)), some (.int (nI (b + l)))] [] h (Rv (.int (nI (pkl S b (k - 1)))) h) := by
    intro l
    induction l with
    | zero =>
      intro _ he
      refine tX4_greatestNew_12 g17 g19 (fun _ => ⟨by rw [← he]; rfl, rfl⟩) (fun z => absurd (nI_le (by omega) (by omega)) z) (fun z => absurd (nI_le (by omega) (by omega)) z) (fun z => absurd (nI_le (by omega) (by omega)) z)
    | succ l ih =>
      intro hl he
      refine tX4_greatestNew_12 g17 g19 (fun z => absurd z (nI_ge (by omega) (by omega))) (fun _ => vp_in_nI (by omega) (by decide)) (fun _ z => ⟨?_, rfl⟩) (fun _ z => ?_)
      · rw [nI_clamp (by omega), hS _ (by omega)] at z
        rw [← he, pkl, if_neg (by rw [z]; decide)]
      · rw [nI_clamp (by omega), hS _ (by omega)] at z
        have hs : S (b + (l + 1)) = true := by cases hb2 : S (b + (l + 1)) <;> simp_all
        rw [m1_add, show nI (b + (l + 1)) - (1 : Int32) = nI (b + l) from nI_pred (b + l)]
        refine ih (by omega) ?_
        rw [← he, pkl, if_pos hs]
  refine Ct_of (by decide +kernel) (Nat.le_of_ble_eq_true rfl) (tX4_greatestNew_0 g17 g3 ?_)
  rw [nI_add, show nI (b + k) - (1 : Int32) = nI (b + (k - 1)) by rw [show b + k = b + (k - 1) + 1 by omega]; exact nI_pred _]
  exact key (k - 1) (Nat.le_refl _) rfl
theorem C_becomeGreedy {kd fm : Int32} {rl pl : Nat → Int32} (ok : okW k n) (g3 : h 3 = cW k n) (g17 : h 17 = cO kd fm) (g18 : h 18 = aB 20000 rl) (g19 : h 19 = aI 20000 pl) : Ct G mX4_becomeGreedy 2 0 0 [.ref 17] h (fun r h2 => r = none ∧ h2 17 = cO 1 fm ∧ (∃ r2, h2 18 = aB 20000 r2 ∧ ∀ j, j < k ^ n → r2 j = nI (gr k n j)) ∧ h2 19 = aI 20000 (plw (gW k (k ^ (n - 1))) (k ^ n) 0 pl) ∧ Fr [17, 18, 19] h h2) := by
  have hN := ok.le (Nat.le_refl n)
  have hk := ok.1
  have hk5 := ok.2.1
  have hn := ok.2.2.1
  have hn2 := ok.2.2.2.1
  have h0 := ok.pp n
  have hp := ok.pp (n - 1)
  have hhi := ok.le (i := n - 1) (by omega)
  have hNk : k ^ n = k ^ (n - 1) * k := pow_n1 hn
  have hnN := n_lt_pow hk n
  rw [← g_cov hk hn pl]
  refine Ct_of (by decide +kernel) (Nat.le_of_ble_eq_true rfl) (tX4_becomeGreedy_0 g17 g3 ?_)
  refine cX4_becomeGreedy_13 (C_fillI (p := 17) (a := 0) (b := k ^ n) (n := 20000) (-1) g19 (Nat.zero_le _) hN (by decide)) ⟨by decide, by decide⟩ (Nat.le_of_ble_eq_true rfl) ⟨Nat.le_refl _, Nat.le_refl _⟩ (fun r h1 e => ?_)
  obtain ⟨rfl, e⟩ := e; replace e := e.symm; subst e
  refine tX4_becomeGreedy_16 ((up_n _ _ (by decide)).trans g17) ((up_n _ _ (by decide)).trans g3) ?_
  refine cX4_becomeGreedy_29 (C_fillB (p := 16) (a := 0) (b := n) (N := 20000) ((up_n _ _ (by decide)).trans g18) (Nat.zero_le _) (by omega) (by decide)) ⟨by decide, by decide⟩ (Nat.le_of_ble_eq_true rfl) ⟨Nat.le_refl _, Nat.le_refl _⟩ (fun r h2 e => ?_)
  obtain ⟨rfl, e⟩ := e; replace e := e.symm; subst e
  refine tX4_becomeGreedy_32 ((up_n _ _ (by decide)).trans ((up_n _ _ (by decide)).trans g17)) ((up_n _ _ (by decide)).trans (up_s _ _ _)) (vp_in_nI (n := 0) (by decide) (by decide)) ?_
  generalize hP0 : fl pl 0 (k ^ n) (-1) = P0
  generalize hQ : (fun (r : Option Value) (h2 : ah) => r = none ∧ h2 17 = cO 1 fm ∧ (∃ r2, h2 18 = aB 20000 r2 ∧ ∀ j, j < k ^ n → r2 j = nI (gr k n j)) ∧ h2 19 = aI 20000 (plw (gW k (k ^ (n - 1))) (k ^ n) 0 P0) ∧ Fr [17, 18, 19] h h2) = Q
  have key : ∀ m i (hh : ah) (r2 p2 : Nat → Int32), i + 1 + m = k ^ n → hh 18 = aB 20000 r2 → (∀ j, j < k ^ n → j < n + i → r2 j = nI (gr k n j)) → hh 19 = aI 20000 p2 → (∀ w, w < k ^ n → (p2 w = -1 ↔ gS k (k ^ (n - 1)) i w = false)) → plw (gW k (k ^ (n - 1))) m (i + 1) p2 = plw (gW k (k ^ (n - 1))) (k ^ n) 0 P0 → Fr [18, 19] h hh → V G mX4_becomeGreedy (2, 0, 0, 0 + 0 + 0, 0 + 0 + 0) 43 [some (.ref 17), some (.int (nI (gW k (k ^ (n - 1)) i))), some (.int (nI (i + 1)))] [] hh Q := by
    intro m
    induction m with
    | zero =>
      intro i hh r2 p2 hi c18 cr c19 cs cp cf
      have kle : nI (k ^ n) ≤ nI (i + 1) := nI_le (by omega) (by omega)
      refine tX4_becomeGreedy_43 ((cf 17 (by decide)).trans g17) ((cf 3 (by decide)).trans g3) (fun _ => ?_) (fun z => absurd kle z) (fun z => absurd kle z)
      rw [← hQ]
      refine ⟨rfl, up_s _ _ _, ⟨r2, (up_n _ _ (by decide)).trans c18, fun j hj => cr j hj (by omega)⟩, ?_, (cf.mono (by decide)).up (by decide)⟩
      rw [← cp]
      exact (up_n _ _ (by decide)).trans c19
    | succ m ih =>
      intro i hh r2 p2 hi c18 cr c19 cs cp cf
      have c17 := (cf 17 (by decide)).trans g17
      have c3 := (cf 3 (by decide)).trans g3
      have hw := (gInv_all hk hn i (by omega)).1
      have hw1 := (gInv_all hk hn (i + 1) (by omega)).1
      have hmd := Nat.mod_lt (gW k (k ^ (n - 1)) i) hp
      have hbk : gW k (k ^ (n - 1)) i % k ^ (n - 1) * k + k ≤ k ^ n := by
        have : (gW k (k ^ (n - 1)) i % k ^ (n - 1) + 1) * k ≤ k ^ (n - 1) * k := Nat.mul_le_mul_right k hmd
        rw [Nat.add_mul, Nat.one_mul] at this
        omega
      refine tX4_becomeGreedy_43 c17 c3 (fun z => absurd z (nI_ge (by omega) (by omega))) (fun _ => nI_n0 hp hhi) (fun _ => ?_)
      rw [pk_rem (by omega) hp (by omega), pk_mul]
      refine cX4_becomeGreedy_72 (k := 15) (C_greatestNew (b := gW k (k ^ (n - 1)) i % k ^ (n - 1) * k) ok c3 c17 c19 hbk cs (d := 0)) c17 ⟨by decide, by decide⟩ (Nat.le_of_ble_eq_true rfl) ⟨Nat.le_refl _, Nat.le_refl _⟩ (fun r h5 e => ?_)
      obtain ⟨rfl, e⟩ := e; replace e := e.symm; subst e
      rw [← gW_s]
      have enl : nI (i + 1) + nI n - (1 : Int32) = nI (i + n) := by
        rw [nI_add, show i + 1 + n = i + n + 1 by omega]
        exact nI_pred _
      have cw : (nI (gW k (k ^ (n - 1)) (i + 1))).toNatClampNeg = gW k (k ^ (n - 1)) (i + 1) := nI_clamp (by omega)
      have cs2 : ∀ w, w < k ^ n → (upd p2 (gW k (k ^ (n - 1)) (i + 1)) (nI (i + 1)) w = -1 ↔ gS k (k ^ (n - 1)) (i + 1) w = false) := fun w hw2 => by
        rw [gS_s]
        unfold addS
        by_cases hwx : w = gW k (k ^ (n - 1)) (i + 1)
        · rw [hwx, pk_us, if_pos rfl]
          exact ⟨fun z => absurd z (nI_nm1 (by omega)), fun z => absurd z (by decide)⟩
        · rw [pk_un hwx, if_neg hwx]
          exact cs w hw2
      refine tX4_becomeGreedy_75 c17 c19 c3 c18 (vp_in_nI (by omega) (by decide)) (fun z => ?_) (fun _ => nI_n0 ok.pos (by omega)) (fun z => ?_) (fun z => ?_)
      · rw [enl, nI_leI (by omega) (by omega)] at z
        rw [nI_1, cw]
        exact ih (i + 1) _ r2 _ (by omega) ((up_n _ _ (by decide)).trans c18) (fun j h1 h2 => cr j h1 (by omega)) (up_s _ _ _) cs2 cp (cf.up (by decide))
      · rw [enl] at z ⊢
        rw [nI_leI (by omega) (by omega)] at z
        exact vp_in_nI (by omega) (by decide)
      · rw [enl, nI_leI (by omega) (by omega)] at z
        have hmk := Nat.mod_lt (gW k (k ^ (n - 1)) (i + 1)) ok.pos
        rw [enl, nI_1, cw, nI_clamp (n := i + n) (by omega), pk_rem (by omega) ok.pos (by omega), nar_b _ (by omega)]
        refine ih (i + 1) _ (upd r2 (i + n) (nI (gW k (k ^ (n - 1)) (i + 1) % k))) _ (by omega) (up_s _ _ _) (fun j h1 h2 => ?_) ((up_n _ _ (by decide)).trans (up_s _ _ _)) cs2 cp ((cf.up (by decide)).up (by decide))
        by_cases hj : j = i + n
        · rw [hj, pk_us, gr, if_neg (by omega), show i + n - n + 1 = i + 1 by omega]
        · rw [pk_un hj]
          exact cr j h1 (by omega)
  have := key (k ^ n - 1) 0 (va_up (va_up (va_up h 19 (aI 20000 P0)) 18 (aB 20000 (fl rl 0 n 0))) 19 (aI 20000 (upd P0 0 0))) (fl rl 0 n 0) (upd P0 0 0) (by omega) ((up_n _ _ (by decide)).trans (up_s _ _ _)) (fun j h1 h2 => ?_) (up_s _ _ _) (fun w hw => ?_) ?_ (((Fr.rf.up (by decide)).up (by decide)).up (by decide))
  · exact this
  · rw [gr, if_pos (by omega)]
    exact if_pos ⟨Nat.zero_le _, by omega⟩
  · by_cases hw0 : w = 0
    · rw [hw0, pk_us]
      exact ⟨fun z => absurd z (by decide), fun z => absurd (show gS k (k ^ (n - 1)) 0 0 = true from rfl) (by rw [z]; decide)⟩
    · rw [pk_un hw0, ← hP0]
      refine ⟨fun _ => decide_eq_false hw0, fun _ => if_pos ⟨Nat.zero_le _, hw⟩⟩
  · have e : k ^ n = (k ^ n - 1) + 1 := by omega
    conv => rhs; rw [e]
    rfl
theorem X_round_greedy {f l kd fm : Int32} {rl pl : Nat → Int32} (ok : okW k n) (g2 : h 2 = cX f l) (g3 : h 3 = cW k n) (g17 : h 17 = cO kd fm) (g18 : h 18 = aB 20000 rl) (g19 : h 19 = aI 20000 pl) : Ct G mX7_round 5 0 0 [.ref 2, .int 1] h (fun r h2 => r = some (.int (nI (k ^ n))) ∧ h2 17 = cO 1 fm ∧ (∃ r2, h2 18 = aB 20000 r2 ∧ ∀ j, j < k ^ n → r2 j = nI (gr k n j)) ∧ h2 19 = aI 20000 (plw (gW k (k ^ (n - 1))) (k ^ n) 0 pl) ∧ Fr [17, 18, 19] h h2) := by
  refine Ct_of (by decide +kernel) (Nat.le_of_ble_eq_true rfl) (tX7_round_0 ?_)
  refine V_tabIn (off := 42) (t := 43) dX7_round_1 (by decide) (by decide) (by decide +kernel) (by decide) ?_
  refine tX7_round_43 g2 ?_
  refine cX7_round_47 (k := 15) (C_becomeGreedy ok g3 g17 g18 g19) g17 ⟨by decide, by decide⟩ (Nat.le_of_ble_eq_true rfl) ⟨Nat.le_refl _, Nat.le_refl _⟩ (fun r h2 e => ?_)
  obtain ⟨rfl, e1, e2, e3, e4⟩ := e
  exact tX7_round_50 ((e4 2 (by decide)).trans g2) ((e4 3 (by decide)).trans g3) ⟨rfl, e1, e2, e3, e4⟩
end GC
