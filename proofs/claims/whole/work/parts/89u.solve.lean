/-! RECURRENCE: the reference's solving -/
theorem ix_rw (r w j : Nat) : nI r * nI w + nI j = nI (r * w + j) := by rw [pk_mul, nI_add]
theorem ix_lt {r R w j : Nat} (hr : r < R) (hj : j < w) (hR : R ≤ 200) (hw : w ≤ 201) : r * w + j < 40602 := by
  have h1 : (r + 1) * w ≤ 200 * 201 := Nat.mul_le_mul (by omega) hw
  rw [Nat.add_mul, Nat.one_mul] at h1
  omega
theorem ix_ne {r q w i j : Nat} (hi : i < w) (hj : j < w) (h : r * w + i = q * w + j) : r = q ∧ i = j := by
  have a := dm_u (q := r) hi rfl
  have b := dm_u (q := q) hj h
  exact ⟨a.1.symm.trans b.1, a.2.symm.trans b.2⟩
def isM (R w : Nat) (f : Nat → Int32) (M : Nat → Nat → Nat) : Prop := ∀ r j, r < R → j < w → f (r * w + j) = nI (M r j)
theorem isM_u {R w r0 j0 v : Nat} {f : Nat → Int32} {M M2 : Nat → Nat → Nat} (h : isM R w f M) (hj0 : j0 < w) (h2 : M2 r0 j0 = v) (h3 : ∀ r j, r < R → j < w → ¬ (r = r0 ∧ j = j0) → M2 r j = M r j) : isM R w (upd f (r0 * w + j0) (nI v)) M2 := fun r j hr hj => by
  by_cases e : r = r0 ∧ j = j0
  · obtain ⟨rfl, rfl⟩ := e
    rw [pk_us, h2]
  · rw [pk_un (fun q => e (ix_ne hj hj0 q)), h3 r j hr hj e]
    exact h r j hr hj
theorem isM_cg {R w : Nat} {f : Nat → Int32} {M M2 : Nat → Nat → Nat} (h : isM R w f M) (h2 : ∀ r j, r < R → j < w → M r j = M2 r j) : isM R w f M2 := fun r j hr hj => (h r j hr hj).trans (congrArg nI (h2 r j hr hj))
def kI (x : Option Nat) : Int32 := match x with
  | none => -1
  | some d => nI d
section RM2
variable {G : gx} {h : ah} {b : bg} {Q : Option Value → ah → Prop} {k t N L : Nat} {nx ax sx mx mc mw ml mf mp mg : Int32} {s : Nat → Nat}
/-- row r is filled -/
theorem sv_30 {it : Nat → Int32} {r : Nat} (ht : t < 4) (hLN : L ≤ N) (hN : N ≤ 200) (hr : r < N - L) (g42 : h 42 = cM (nI k) nx ax sx mx mc mw ml mf mp mg) (g57 : h 57 = aI 800 it) (his : ∀ j, j < N → it (200 * t + j) = nI (s j)) (kk : ∀ f, isM (r + 1) (L + 1) f (mz0 s L) → V G mX8_solve b 20 [some (.ref 42), some (.int (nI t)), some (.int (nI L)), some (.int (nI N)), some (.int (nI (N - L))), some (.int (nI (L + 1))), some (.int (nI (r + 1)))] [] (va_up h 64 (aI 40602 f)) Q) : ∀ m j f, j + m = L → isM r (L + 1) f (mz0 s L) → (∀ i, i < j → f (r * (L + 1) + i) = nI (mz0 s L r i)) → V G mX8_solve b 30 [some (.ref 42), some (.int (nI t)), some (.int (nI L)), some (.int (nI N)), some (.int (nI (N - L))), some (.int (nI (L + 1))), some (.int (nI r)), some (.int (nI (j + 1)))] [] (va_up h 64 (aI 40602 f)) Q := by
  intro m
  induction m with
  | zero =>
    intro j f hj hf hf2
    have e : j = L := by omega
    subst e
    have hc : nI j < nI (j + 1) := nI_lt (by omega) (by omega)
    have hlt := ix_lt hr (show j < j + 1 by omega) (by omega) (by omega)
    have e1 : ((200 : Int32) * nI t) + nI j + nI r = nI (200 * t + (j + r)) := by rw [ix_200, nI_add, Nat.add_assoc]
    have e2 : nI r * nI (j + 1) + nI j = nI (r * (j + 1) + j) := ix_rw _ _ _
    refine tX8_solve_30 ((up_n _ _ (by decide)).trans g42) ((up_n _ _ (by decide)).trans g57) (up_s _ _ _) (fun _ => by rw [e1]; exact vp_in_nI (by omega) (by decide)) (fun _ => by rw [e2]; exact vp_in_nI hlt (by decide)) (fun _ => ?_) (fun q => absurd hc q) (fun q => absurd hc q) (fun q => absurd hc q)
    rw [bx_uu, e1, e2, nI_clamp (n := r * (j + 1) + j) (by omega), nI_clamp (n := 200 * t + (j + r)) (by omega), his (j + r) (by omega), nI_1]
    refine kk _ (fun q i hq hi => ?_)
    by_cases e : q = r ∧ i = j
    · obtain ⟨rfl, rfl⟩ := e
      rw [pk_us]
      exact congrArg nI (if_pos rfl).symm
    · rw [pk_un (fun z => e (ix_ne hi (by omega) z))]
      by_cases hqr : q = r
      · subst hqr
        exact hf2 i (by omega)
      · exact hf q i (by omega) hi
  | succ m ih =>
    intro j f hj hf hf2
    have hc : ¬ nI L < nI (j + 1) := nI_nlt (by omega) (by omega)
    have hlt := ix_lt hr (show j < L + 1 by omega) (by omega) (by omega)
    have e1 : ((200 : Int32) * nI t) + nI L + nI r - nI (j + 1) = nI (200 * t + (L + r - (j + 1))) := by rw [ix_200, nI_add, pk_sub (by omega), show 200 * t + L + r - (j + 1) = 200 * t + (L + r - (j + 1)) by omega]
    have e2 : nI r * nI (L + 1) + nI (j + 1) - 1 = nI (r * (L + 1) + j) := by rw [ix_rw]; exact nI_pred _
    refine tX8_solve_30 ((up_n _ _ (by decide)).trans g42) ((up_n _ _ (by decide)).trans g57) (up_s _ _ _) (fun q => absurd q hc) (fun q => absurd q hc) (fun q => absurd q hc) (fun _ => by rw [e1]; exact vp_in_nI (by omega) (by decide)) (fun _ => by rw [e2]; exact vp_in_nI hlt (by decide)) (fun _ => ?_)
    rw [bx_uu, e1, e2, nI_clamp (n := r * (L + 1) + j) (by omega), nI_clamp (n := 200 * t + (L + r - (j + 1))) (by omega), his (L + r - (j + 1)) (by omega), nI_1]
    refine ih (j + 1) _ (by omega) (fun q i hq hi => ?_) (fun i hi => ?_)
    · rw [pk_un (fun z => by have := (ix_ne hi (show j < L + 1 by omega) z).1; omega)]
      exact hf q i hq hi
    · by_cases e : i = j
      · subst e
        rw [pk_us]
        refine congrArg nI ?_
        rw [show mz0 s L r i = s (L + r - 1 - i) from if_neg (by omega)]
        congr 1
        omega
      · rw [pk_un (fun z => e (by omega))]
        exact hf2 i (by omega)
theorem sv_20 {it : Nat → Int32} (ht : t < 4) (hLN : L ≤ N) (hN : N ≤ 200) (g42 : h 42 = cM (nI k) nx ax sx mx mc mw ml mf mp mg) (g57 : h 57 = aI 800 it) (his : ∀ j, j < N → it (200 * t + j) = nI (s j)) (kk : ∀ f, isM (N - L) (L + 1) f (mz0 s L) → V G mX8_solve b 111 [some (.ref 42), some (.int (nI t)), some (.int (nI L)), some (.int (nI N)), some (.int (nI (N - L))), some (.int (nI (L + 1))), some (.int (nI 0))] [] (va_up h 64 (aI 40602 f)) Q) : ∀ m r f, r + m = N - L → isM r (L + 1) f (mz0 s L) → V G mX8_solve b 20 [some (.ref 42), some (.int (nI t)), some (.int (nI L)), some (.int (nI N)), some (.int (nI (N - L))), some (.int (nI (L + 1))), some (.int (nI r))] [] (va_up h 64 (aI 40602 f)) Q := by
  intro m
  induction m with
  | zero =>
    intro r f hr hf
    have e : r = N - L := by omega
    subst e
    exact tX8_solve_20 (fun _ => kk f hf) (fun q => absurd (nI_le (Nat.le_refl _) (by omega)) q)
  | succ m ih =>
    intro r f hr hf
    refine tX8_solve_20 (fun q => absurd q (nI_ge (by omega) (by omega))) (fun _ => ?_)
    exact sv_30 ht hLN hN (by omega) g42 g57 his (fun f2 hf2 => ih (r + 1) f2 (by omega) hf2) L 0 f (by omega) hf (fun i hi => by omega)
/-- a row that is not 0 at c is looked for -/
theorem sv_156 {M : Nat → Nat → Nat} {dn c : Nat} {f : Nat → Int32} (hLN : L ≤ N) (hN : N ≤ 200) (hc : c < L) (g42 : h 42 = cM (nI k) nx ax sx mx mc mw ml mf mp mg) (g64 : h 64 = aI 40602 f) (hM : isM (N - L) (L + 1) f M) (hlt : ∀ r j, r < N - L → j ≤ L → M r j < 5) (k0 : (∀ r, dn ≤ r → r < N - L → M r c = 0) → V G mX8_solve b 147 [some (.ref 42), some (.int (nI t)), some (.int (nI L)), some (.int (nI N)), some (.int (nI (N - L))), some (.int (nI (L + 1))), some (.int (nI dn)), some (.int (nI c + (-1)))] [] h Q) (k1 : ∀ p, dn ≤ p → p < N - L → 0 < M p c → V G mX8_solve b 206 [some (.ref 42), some (.int (nI t)), some (.int (nI L)), some (.int (nI N)), some (.int (nI (N - L))), some (.int (nI (L + 1))), some (.int (nI dn)), some (.int (nI c)), some (.int (nI p))] [.int (nI (M p c)), .ref 42] h Q) : ∀ m p, p + m = N - L → dn ≤ p → (∀ r, dn ≤ r → r < p → M r c = 0) → V G mX8_solve b 156 [some (.ref 42), some (.int (nI t)), some (.int (nI L)), some (.int (nI N)), some (.int (nI (N - L))), some (.int (nI (L + 1))), some (.int (nI dn)), some (.int (nI c)), some (.int (nI p))] [] h Q := by
  intro m
  induction m with
  | zero =>
    intro p hp hd hz
    have hcc : nI (N - L) ≤ nI p := nI_le (by omega) (by omega)
    refine tX8_solve_156 g42 g64 (fun _ _ => k0 (fun r r1 r2 => hz r r1 (by omega))) (fun _ q => absurd hcc q) (fun _ q => absurd hcc q) (fun q => absurd hcc q) (fun q => absurd hcc q) (fun q => absurd hcc q) (fun q => absurd hcc q) (fun q => absurd hcc q)
  | succ m ih =>
    intro p hp hd hz
    have hcc : ¬ nI (N - L) ≤ nI p := nI_ge (by omega) (by omega)
    have hl := ix_lt (show p < N - L by omega) (show c < L + 1 by omega) (by omega) (by omega)
    have e : nI p * nI (L + 1) + nI c = nI (p * (L + 1) + c) := ix_rw _ _ _
    have hv : vp_in (nI p * nI (L + 1) + nI c) 40602 := by rw [e]; exact vp_in_nI hl (by decide)
    have hf : f (nI p * nI (L + 1) + nI c).toNatClampNeg = nI (M p c) := by rw [e, nI_clamp (by omega)]; exact hM p c (by omega) (by omega)
    have hMl := hlt p c (by omega) (by omega)
    refine tX8_solve_156 g42 g64 (fun q => absurd q hcc) (fun q => absurd q hcc) (fun q => absurd q hcc) (fun _ => hv) (fun _ _ q => absurd q hcc) (fun _ _ _ => hv) (fun _ q _ => ?_) (fun _ q => ?_)
    · rw [hf] at q ⊢
      exact k1 p hd (by omega) (Nat.pos_of_ne_zero (fun z => q (by rw [z]; exact nI_0)))
    · rw [hf] at q
      rw [nI_1]
      refine ih (p + 1) (by omega) (by omega) (fun r r1 r2 => ?_)
      by_cases hrp : r = p
      · rw [hrp]; exact (nI_eq (by omega) (by omega)).mp q
      · exact hz r r1 (by omega)
/-- rows p and dn change places -/
theorem sv_214 {M : Nat → Nat → Nat} {dn c p y : Nat} (hk : 2 ≤ k ∧ k ≤ 5) (hLN : L ≤ N) (hN : N ≤ 200) (hp : p < N - L) (hdn : dn < N - L) (hy : y ≤ 5) (g42 : h 42 = cM (nI k) nx ax sx mx mc mw ml mf mp mg) (hlt : ∀ r j, r < N - L → j ≤ L → M r j < 5) (kk : ∀ f, isM (N - L) (L + 1) f (msw k y p dn M) → V G mX8_solve b 294 [some (.ref 42), some (.int (nI t)), some (.int (nI L)), some (.int (nI N)), some (.int (nI (N - L))), some (.int (nI (L + 1))), some (.int (nI dn)), some (.int (nI c)), some (.int (nI p)), some (.int (nI y)), some (.int (nI 0))] [] (va_up h 64 (aI 40602 f)) Q) : ∀ m j f, j + m = L + 1 → isM (N - L) (L + 1) f (fun r q => if q < j then msw k y p dn M r q else M r q) → V G mX8_solve b 214 [some (.ref 42), some (.int (nI t)), some (.int (nI L)), some (.int (nI N)), some (.int (nI (N - L))), some (.int (nI (L + 1))), some (.int (nI dn)), some (.int (nI c)), some (.int (nI p)), some (.int (nI y)), some (.int (nI j))] [] (va_up h 64 (aI 40602 f)) Q := by
  intro m
  induction m with
  | zero =>
    intro j f hj hf
    have hcc : nI (L + 1) ≤ nI j := nI_le (by omega) (by omega)
    refine tX8_solve_214 ((up_n _ _ (by decide)).trans g42) (up_s _ _ _) (fun _ => kk f (isM_cg hf (fun r q hr hq => if_pos (by omega)))) (fun q => absurd hcc q) (fun q => absurd hcc q) (fun q => absurd hcc q) (fun q => absurd hcc q) (fun q => absurd hcc q) (fun q => absurd hcc q)
  | succ m ih =>
    intro j f hj hf
    have hcc : ¬ nI (L + 1) ≤ nI j := nI_ge (by omega) (by omega)
    have hl1 := ix_lt hp (show j < L + 1 by omega) (by omega) (by omega)
    have hl2 := ix_lt hdn (show j < L + 1 by omega) (by omega) (by omega)
    have e1 : nI p * nI (L + 1) + nI j = nI (p * (L + 1) + j) := ix_rw _ _ _
    have e2 : nI dn * nI (L + 1) + nI j = nI (dn * (L + 1) + j) := ix_rw _ _ _
    have v1 : vp_in (nI p * nI (L + 1) + nI j) 40602 := by rw [e1]; exact vp_in_nI hl1 (by decide)
    have v2 : vp_in (nI dn * nI (L + 1) + nI j) 40602 := by rw [e2]; exact vp_in_nI hl2 (by decide)
    have f1 : f (p * (L + 1) + j) = nI (M p j) := (hf p j hp (by omega)).trans (congrArg nI (if_neg (by omega)))
    have f2 : f (dn * (L + 1) + j) = nI (M dn j) := (hf dn j hdn (by omega)).trans (congrArg nI (if_neg (by omega)))
    have hb := mlt (show M p j ≤ 5 by have := hlt p j hp (by omega); omega) hy
    refine tX8_solve_214 ((up_n _ _ (by decide)).trans g42) (up_s _ _ _) (fun q => absurd q hcc) (fun _ => v1) (fun _ => nI_ne0 (by omega) (by omega)) (fun _ => v2) (fun _ => v1) (fun _ => v2) (fun _ => ?_)
    rw [bx_uu, bx_uu, e1, e2, nI_clamp (n := p * (L + 1) + j) (by omega), nI_clamp (n := dn * (L + 1) + j) (by omega), f1, f2, pk_mul, rm_e (by omega) hk, nI_1]
    refine ih (j + 1) _ (by omega) ?_
    refine isM_u (M := fun r q => if r = p ∧ q = j then M dn j else if q < j then msw k y p dn M r q else M r q) (isM_u hf (by omega) (if_pos ⟨rfl, rfl⟩) (fun r q _ _ hne => if_neg hne)) (by omega) ?_ (fun r q hr hq hne => ?_)
    · show (if j < j + 1 then msw k y p dn M dn j else M dn j) = _
      rw [if_pos (by omega)]
      exact if_pos rfl
    · show (if q < j + 1 then msw k y p dn M r q else M r q) = if r = p ∧ q = j then M dn j else if q < j then msw k y p dn M r q else M r q
      by_cases hqj : q = j
      · subst hqj
        have hrd : r ≠ dn := fun z => hne ⟨z, rfl⟩
        rw [if_pos (by omega)]
        by_cases hrp : r = p
        · rw [if_pos ⟨hrp, rfl⟩]
          exact (if_neg hrd).trans (if_pos hrp)
        · rw [if_neg (fun z => hrp z.1), if_neg (by omega)]
          exact (if_neg hrd).trans (if_neg hrp)
      · rw [if_neg (c := r = p ∧ q = j) (fun z => hqj z.2)]
        by_cases hq2 : q < j
        · rw [if_pos hq2, if_pos (by omega)]
        · rw [if_neg hq2, if_neg (by omega)]
/-- row dn is taken away from row r -/
theorem sv_335 {M : Nat → Nat → Nat} {dn c p y r : Nat} (hk : 2 ≤ k ∧ k ≤ 5) (hLN : L ≤ N) (hN : N ≤ 200) (hc : c < L) (hr : r < N - L) (hdn : dn < N - L) (hrd : r ≠ dn) (g42 : h 42 = cM (nI k) nx ax sx mx mc mw ml mf mp mg) (hlt : ∀ r j, r < N - L → j ≤ L → M r j < k) (hnz : ¬ (k - M r c) % k = 0) (kk : ∀ f, isM (N - L) (L + 1) f (fun q i => if q < r + 1 then mel k c dn M q i else M q i) → V G mX8_solve b 294 [some (.ref 42), some (.int (nI t)), some (.int (nI L)), some (.int (nI N)), some (.int (nI (N - L))), some (.int (nI (L + 1))), some (.int (nI dn)), some (.int (nI c)), some (.int (nI p)), some (.int (nI y)), some (.int (nI (r + 1)))] [] (va_up h 64 (aI 40602 f)) Q) : ∀ m j f, j + m = L + 1 → isM (N - L) (L + 1) f (fun q i => if q < r ∨ (q = r ∧ i < j) then mel k c dn M q i else M q i) → V G mX8_solve b 335 [some (.ref 42), some (.int (nI t)), some (.int (nI L)), some (.int (nI N)), some (.int (nI (N - L))), some (.int (nI (L + 1))), some (.int (nI dn)), some (.int (nI c)), some (.int (nI p)), some (.int (nI y)), some (.int (nI r)), some (.int (nI (k - M r c))), some (.int (nI j))] [] (va_up h 64 (aI 40602 f)) Q := by
  intro m
  induction m with
  | zero =>
    intro j f hj hf
    have hcc : nI (L + 1) ≤ nI j := nI_le (by omega) (by omega)
    refine tX8_solve_335 ((up_n _ _ (by decide)).trans g42) (up_s _ _ _) (fun _ => ?_) (fun q => absurd hcc q) (fun q => absurd hcc q) (fun q => absurd hcc q) (fun q => absurd hcc q) (fun q => absurd hcc q) (fun q => absurd hcc q) (fun q => absurd hcc q)
    rw [nI_1]
    refine kk f (isM_cg hf (fun q i hq hi => ?_))
    show (if q < r ∨ (q = r ∧ i < j) then mel k c dn M q i else M q i) = if q < r + 1 then mel k c dn M q i else M q i
    by_cases hqr : q < r ∨ (q = r ∧ i < j)
    · rw [if_pos hqr, if_pos (by omega)]
    · rw [if_neg hqr, if_neg (by omega)]
  | succ m ih =>
    intro j f hj hf
    have hcc : ¬ nI (L + 1) ≤ nI j := nI_ge (by omega) (by omega)
    have hl1 := ix_lt hr (show j < L + 1 by omega) (by omega) (by omega)
    have hl2 := ix_lt hdn (show j < L + 1 by omega) (by omega) (by omega)
    have e1 : nI r * nI (L + 1) + nI j = nI (r * (L + 1) + j) := ix_rw _ _ _
    have e2 : nI dn * nI (L + 1) + nI j = nI (dn * (L + 1) + j) := ix_rw _ _ _
    have v1 : vp_in (nI r * nI (L + 1) + nI j) 40602 := by rw [e1]; exact vp_in_nI hl1 (by decide)
    have v2 : vp_in (nI dn * nI (L + 1) + nI j) 40602 := by rw [e2]; exact vp_in_nI hl2 (by decide)
    have f1 : f (r * (L + 1) + j) = nI (M r j) := (hf r j hr (by omega)).trans (congrArg nI (if_neg (by omega)))
    have f2 : f (dn * (L + 1) + j) = nI (M dn j) := by
      rw [hf dn j hdn (by omega)]
      refine congrArg nI ?_
      show (if dn < r ∨ (dn = r ∧ j < j) then mel k c dn M dn j else M dn j) = M dn j
      split
      · exact if_pos rfl
      · rfl
    have hM1 := hlt r j hr (by omega)
    have hM2 := hlt dn j hdn (by omega)
    have hb := mlt (show k - M r c ≤ 5 by omega) (show M dn j ≤ 5 by omega)
    have et : nI (k - M r c) - nI (k - M r c) / nI k * nI k = nI ((k - M r c) % k) := rm_e (by omega) hk
    have hml := Nat.mod_lt (k - M r c) (show 0 < k by omega)
    have htn : ¬ nI (k - M r c) - nI (k - M r c) / nI k * nI k = 0 := by rw [et]; exact nI_ne0 (Nat.pos_of_ne_zero hnz) (by omega)
    refine tX8_solve_335 ((up_n _ _ (by decide)).trans g42) (up_s _ _ _) (fun q => absurd q hcc) (fun _ => nI_ne0 (by omega) (by omega)) (fun _ q => absurd q htn) (fun _ _ => v1) (fun _ _ => v2) (fun _ _ => nI_ne0 (by omega) (by omega)) (fun _ _ => v1) (fun _ _ => ?_)
    rw [bx_uu, e1, e2, nI_clamp (n := r * (L + 1) + j) (by omega), nI_clamp (n := dn * (L + 1) + j) (by omega), f1, f2, pk_mul, nI_add, rm_e (by omega) hk, nI_1]
    refine ih (j + 1) _ (by omega) (isM_u hf (by omega) ?_ (fun q i hq hi hne => ?_))
    · show (if r < r ∨ (r = r ∧ j < j + 1) then mel k c dn M r j else M r j) = _
      rw [if_pos (by omega)]
      exact if_neg hrd
    · show (if q < r ∨ (q = r ∧ i < j + 1) then mel k c dn M q i else M q i) = if q < r ∨ (q = r ∧ i < j) then mel k c dn M q i else M q i
      by_cases hqr : q < r ∨ (q = r ∧ i < j)
      · rw [if_pos hqr, if_pos (by omega)]
      · rw [if_neg hqr, if_neg (by omega)]
theorem sv_294 {M : Nat → Nat → Nat} {dn c p y : Nat} {kt : Nat → Int32} (hk : 2 ≤ k ∧ k ≤ 5) (hLN : L ≤ N) (hN : N ≤ 200) (hc : c < L) (hdn : dn < N - L) (g42 : h 42 = cM (nI k) nx ax sx mx mc mw ml mf mp mg) (g63 : h 63 = aI 202 kt) (hlt : ∀ r j, r < N - L → j ≤ L → M r j < k) (kk : ∀ f, isM (N - L) (L + 1) f (mel k c dn M) → V G mX8_solve b 147 [some (.ref 42), some (.int (nI t)), some (.int (nI L)), some (.int (nI N)), some (.int (nI (N - L))), some (.int (nI (L + 1))), some (.int (nI (dn + 1))), some (.int (nI c + (-1)))] [] (va_up (va_up h 64 (aI 40602 f)) 63 (aI 202 (upd kt c (nI dn)))) Q) : ∀ m r f, r + m = N - L → isM (N - L) (L + 1) f (fun q i => if q < r then mel k c dn M q i else M q i) → V G mX8_solve b 294 [some (.ref 42), some (.int (nI t)), some (.int (nI L)), some (.int (nI N)), some (.int (nI (N - L))), some (.int (nI (L + 1))), some (.int (nI dn)), some (.int (nI c)), some (.int (nI p)), some (.int (nI y)), some (.int (nI r))] [] (va_up h 64 (aI 40602 f)) Q := by
  intro m
  induction m with
  | zero =>
    intro r f hr hf
    have hcc : nI (N - L) ≤ nI r := nI_le (by omega) (by omega)
    refine tX8_solve_294 ((up_n _ _ (by decide)).trans g42) ((up_n _ _ (by decide)).trans g63) (up_s _ _ _) (fun _ => vp_in_nI (by omega) (by decide)) (fun _ => ?_) (fun q => absurd hcc q) (fun q => absurd hcc q) (fun q => absurd hcc q)
    rw [nI_1, nI_clamp (by omega)]
    exact kk f (isM_cg hf (fun q i hq hi => if_pos (by omega)))
  | succ m ih =>
    intro r f hr hf
    have hcc : ¬ nI (N - L) ≤ nI r := nI_ge (by omega) (by omega)
    have hcw : ¬ nI (L + 1) ≤ nI 0 := nI_ge (by omega) (by omega)
    have nk : ¬ nI k = 0 := nI_ne0 (by omega) (by omega)
    have same : (∀ i, i < L + 1 → mel k c dn M r i = M r i) → isM (N - L) (L + 1) f (fun q i => if q < r + 1 then mel k c dn M q i else M q i) := fun hs q i hq hi => by
      rw [hf q i hq hi]
      refine congrArg nI ?_
      show (if q < r then mel k c dn M q i else M q i) = if q < r + 1 then mel k c dn M q i else M q i
      by_cases hqr : q = r
      · subst hqr
        rw [if_neg (by omega), if_pos (by omega)]
        exact (hs i hi).symm
      · by_cases hq2 : q < r
        · rw [if_pos hq2, if_pos (by omega)]
        · rw [if_neg hq2, if_neg (by omega)]
    have skip : ∀ x : Int32, x - x / nI k * nI k = 0 → (∀ i, i < L + 1 → mel k c dn M r i = M r i) → V G mX8_solve b 335 [some (.ref 42), some (.int (nI t)), some (.int (nI L)), some (.int (nI N)), some (.int (nI (N - L))), some (.int (nI (L + 1))), some (.int (nI dn)), some (.int (nI c)), some (.int (nI p)), some (.int (nI y)), some (.int (nI r)), some (.int x), some (.int (nI 0))] [] (va_up h 64 (aI 40602 f)) Q := fun x hx hs => by
      refine tX8_solve_335 ((up_n _ _ (by decide)).trans g42) (up_s _ _ _) (fun q => absurd q hcw) (fun _ => nk) (fun _ _ => ?_) (fun _ q => absurd hx q) (fun _ q => absurd hx q) (fun _ q => absurd hx q) (fun _ q => absurd hx q) (fun _ q => absurd hx q)
      rw [nI_1]
      exact ih (r + 1) f (by omega) (same hs)
    have e : nI r * nI (L + 1) + nI c = nI (r * (L + 1) + c) := ix_rw _ _ _
    have hl := ix_lt (show r < N - L by omega) (show c < L + 1 by omega) (by omega) (by omega)
    have hfc : f (r * (L + 1) + c) = nI (M r c) := (hf r c (by omega) (by omega)).trans (congrArg nI (if_neg (by omega)))
    have hMc := hlt r c (by omega) (by omega)
    refine tX8_solve_294 ((up_n _ _ (by decide)).trans g42) ((up_n _ _ (by decide)).trans g63) (up_s _ _ _) (fun q => absurd q hcc) (fun q => absurd q hcc) (fun _ _ => by rw [e]; exact vp_in_nI hl (by decide)) (fun _ q => ?_) (fun _ q => ?_)
    · have hrd : r ≠ dn := fun z => q (by rw [z])
      rw [e, nI_clamp (n := r * (L + 1) + c) (by omega), hfc, pk_sub (by omega)]
      by_cases hnz : (k - M r c) % k = 0
      · refine skip _ (by rw [rm_e (by omega) hk, hnz]; exact nI_0) (fun i hi => ?_)
        have hz : M r c = 0 := by
          apply Classical.byContradiction
          intro z
          rw [Nat.mod_eq_of_lt (by omega)] at hnz
          omega
        rw [show mel k c dn M r i = (M r i + (k - M r c) * M dn i) % k from if_neg hrd, hz, Nat.sub_zero, Nat.add_mul_mod_self_left, Nat.mod_eq_of_lt (hlt r i (by omega) (by omega))]
      · refine sv_335 hk hLN hN hc (by omega) hdn hrd g42 hlt hnz (fun f2 hf2 => ih (r + 1) f2 (by omega) hf2) (L + 1) 0 f (by omega) (isM_cg hf (fun q i hq hi => ?_))
        show (if q < r then mel k c dn M q i else M q i) = if q < r ∨ (q = r ∧ i < 0) then mel k c dn M q i else M q i
        by_cases hq2 : q < r
        · rw [if_pos hq2, if_pos (Or.inl hq2)]
        · rw [if_neg hq2, if_neg (by omega)]
    · have hrd : r = dn := (nI_eq (by omega) (by omega)).mp q
      refine skip 0 ?_ (fun i hi => by rw [hrd]; exact if_pos rfl)
      have := rm_e (a := 0) (k := k) (by decide) hk
      rw [Nat.zero_mod, nI_0] at this
      exact this
/-- the numbers are told -/
theorem sv_433 {M : Nat → Nat → Nat} {dn : Nat} {kp : Nat → Option Nat} {kt f : Nat → Int32} (hLN : L ≤ N) (hN : N ≤ 200) (g42 : h 42 = cM (nI k) nx ax sx mx mc mw ml mf mp mg) (g63 : h 63 = aI 202 kt) (g64 : h 64 = aI 40602 f) (hM : isM (N - L) (L + 1) f M) (hkt : ∀ j, j < L → kt j = kI (kp j)) (hkp : ∀ j d, j < L → kp j = some d → d < N - L) (kk : ∀ g, (∀ c, c < L → g (c + 1) = nI (tlz kp M L c)) → Q none (va_up h 60 (aI 201 g))) : ∀ m c g, c + m = L → (∀ j, j < c → g (j + 1) = nI (tlz kp M L j)) → V G mX8_solve b 433 [some (.ref 42), some (.int (nI t)), some (.int (nI L)), some (.int (nI N)), some (.int (nI (N - L))), some (.int (nI (L + 1))), some (.int (nI dn)), some (.int (nI c))] [] (va_up h 60 (aI 201 g)) Q := by
  intro m
  induction m with
  | zero =>
    intro c g hc hg
    have e : c = L := by omega
    subst e
    have hcc : nI c ≤ nI c := nI_le (Nat.le_refl _) (by omega)
    exact tX8_solve_433 ((up_n _ _ (by decide)).trans g42) ((up_n _ _ (by decide)).trans g63) ((up_n _ _ (by decide)).trans g64) (up_s _ _ _) (fun _ => kk g hg) (fun q => absurd hcc q) (fun q => absurd hcc q) (fun q => absurd hcc q) (fun q => absurd hcc q) (fun q => absurd hcc q) (fun q => absurd hcc q) (fun q => absurd hcc q)
  | succ m ih =>
    intro c g hc hg
    have hcc : ¬ nI L ≤ nI c := nI_ge (by omega) (by omega)
    have hv : vp_in (nI c) 202 := vp_in_nI (by omega) (by decide)
    have hv1 : vp_in (nI c + 1) 201 := by rw [nI_1]; exact vp_in_nI (by omega) (by decide)
    have hcl : (nI c).toNatClampNeg = c := nI_clamp (by omega)
    have step : ∀ v, v = nI (tlz kp M L c) → ∀ j, j < c + 1 → upd g (nI c + 1).toNatClampNeg v (j + 1) = nI (tlz kp M L j) := fun v hv j hj => by
      rw [nI_1, nI_clamp (by omega)]
      by_cases hjc : j = c
      · rw [hjc, pk_us]; exact hv
      · rw [pk_un (by omega)]; exact hg j (by omega)
    cases hkc : kp c with
    | none =>
      have hm1 : kt (nI c).toNatClampNeg = -1 := by rw [hcl, hkt c (by omega), hkc]; rfl
      refine tX8_solve_433 ((up_n _ _ (by decide)).trans g42) ((up_n _ _ (by decide)).trans g63) ((up_n _ _ (by decide)).trans g64) (up_s _ _ _) (fun q => absurd q hcc) (fun _ => hv) (fun _ q => absurd hm1 q) (fun _ q => absurd hm1 q) (fun _ q => absurd hm1 q) (fun _ q => absurd hm1 q) (fun _ _ => hv1) (fun _ _ => ?_)
      rw [bx_uu]
      have hs := step 0 (by unfold tlz; rw [hkc]; exact nI_0.symm)
      rw [nI_1] at hs ⊢
      exact ih (c + 1) _ (by omega) hs
    | some d =>
      have hd := hkp c d (by omega) hkc
      have hl := ix_lt hd (show L < L + 1 by omega) (by omega) (by omega)
      have hke : kt (nI c).toNatClampNeg = nI d := by rw [hcl, hkt c (by omega), hkc]; rfl
      have hm1 : ¬ kt (nI c).toNatClampNeg = -1 := by rw [hke]; exact nI_nm1 (by omega)
      have e : kt (nI c).toNatClampNeg * nI (L + 1) + nI L = nI (d * (L + 1) + L) := by rw [hke]; exact ix_rw _ _ _
      refine tX8_solve_433 ((up_n _ _ (by decide)).trans g42) ((up_n _ _ (by decide)).trans g63) ((up_n _ _ (by decide)).trans g64) (up_s _ _ _) (fun q => absurd q hcc) (fun _ => hv) (fun _ _ => hv) (fun _ _ => by rw [e]; exact vp_in_nI hl (by decide)) (fun _ _ => hv1) (fun _ _ => ?_) (fun _ q => absurd q hm1) (fun _ q => absurd q hm1)
      rw [bx_uu, e, nI_clamp (n := d * (L + 1) + L) (by omega), hM d L hd (by omega)]
      have hs := step (nI (M d L)) (by unfold tlz; rw [hkc])
      rw [nI_1] at hs ⊢
      exact ih (c + 1) _ (by omega) hs
theorem M_solve {it sz n3 to mt : Nat → Int32} (hp : k = 2 ∨ k = 3 ∨ k = 5) (ht : t < 4) (hLN : L ≤ N) (hN : N ≤ 200) (hsz : sz t = nI N) (g42 : h 42 = cM (nI k) nx ax sx mx mc mw ml mf mp mg) (g56 : h 56 = aI 4 sz) (g57 : h 57 = aI 800 it) (g60 : h 60 = aI 201 to) (g63 : h 63 = aI 202 n3) (g64 : h 64 = aI 40602 mt) (his : ∀ j, j < N → it (200 * t + j) = nI (s j) ∧ s j < k) : Ct G mX8_solve 1 0 0 [.ref 42, .int (nI t), .int (nI L)] h (fun r h2 => r = none ∧ (∃ M dn kp g, SI k (N - L) L (mz0 s L) 0 M dn kp ∧ h2 60 = aI 201 g ∧ ∀ c, c < L → g (c + 1) = nI (tlz kp M L c)) ∧ (∃ f, h2 63 = aI 202 f) ∧ (∃ f, h2 64 = aI 40602 f) ∧ Fr [60, 63, 64] h h2) := by
  have hk : 2 ≤ k ∧ k ≤ 5 := by omega
  generalize hQ : (fun (r : Option Value) (h2 : ah) => r = none ∧ (∃ M dn kp g, SI k (N - L) L (mz0 s L) 0 M dn kp ∧ h2 60 = aI 201 g ∧ ∀ c, c < L → g (c + 1) = nI (tlz kp M L c)) ∧ (∃ f, h2 63 = aI 202 f) ∧ (∃ f, h2 64 = aI 40602 f) ∧ Fr [60, 63, 64] h h2) = Q
  have col : ∀ c M dn kp (f kt g : Nat → Int32) (hh : ah), c ≤ L → SI k (N - L) L (mz0 s L) c M dn kp → hh 64 = aI 40602 f → isM (N - L) (L + 1) f M → hh 63 = aI 202 kt → (∀ j, j < L → kt j = kI (kp j)) → hh 60 = aI 201 g → Fr [60, 63, 64] h hh → V G mX8_solve (b0 1) 147 [some (.ref 42), some (.int (nI t)), some (.int (nI L)), some (.int (nI N)), some (.int (nI (N - L))), some (.int (nI (L + 1))), some (.int (nI dn)), some (.int (nI c - 1))] [] hh Q := by
    intro c
    induction c with
    | zero =>
      intro M dn kp f kt g hh hc hS k64 hM k63 hkt k60 kf
      refine tX8_solve_147 (fun _ => ?_) (fun q => absurd (show nI 0 - 1 < 0 by decide) q)
      have hgo := sv_433 (G := G) (b := b0 1) (Q := Q) (h := hh) (t := t) (L := L) (N := N) (M := M) (dn := dn) (kp := kp) hLN hN ((kf 42 (by decide)).trans g42) k63 k64 hM hkt (fun j d hj hkj => by have := (hS.2.2.2.2.1 j d (Nat.zero_le _) hj hkj).1; have := hS.1; omega) (fun g2 hg2 => ?_) L 0 g (by omega) (fun j hj => by omega)
      · rw [up_id k60] at hgo
        exact hgo
      · rw [← hQ]
        exact ⟨rfl, ⟨M, dn, kp, g2, hS, up_s _ _ _, hg2⟩, ⟨kt, (up_n _ _ (by decide)).trans k63⟩, ⟨f, (up_n _ _ (by decide)).trans k64⟩, kf.up (by decide)⟩
    | succ c ih =>
      intro M dn kp f kt g hh hc hS k64 hM k63 hkt k60 kf
      have k42 := (kf 42 (by decide)).trans g42
      have ec : nI (c + 1) - 1 = nI c := nI_pred c
      have ec2 : nI c + (-1) = nI c - 1 := (Int32.sub_eq_add_neg _ _).symm
      have hdR := hS.1
      have hlt := hS.2.1
      have hlt5 : ∀ r j, r < N - L → j ≤ L → M r j < 5 := fun r j h1 h2 => by have := hlt r j h1 h2; omega
      rw [ec]
      refine tX8_solve_147 (fun q => absurd q (nI_pos (by omega))) (fun _ => ?_)
      refine sv_156 (M := M) (dn := dn) hLN hN (by omega) k42 k64 hM hlt5 (fun hz => ?_) (fun p p1 p2 p3 => ?_) (N - L - dn) dn (by omega) (Nat.le_refl _) (fun r r1 r2 => by omega)
      · rw [ec2]
        exact ih M dn kp f kt g hh (by omega) (SI_no hS hz) k64 hM k63 hkt k60 kf
      · have hMl := hlt p c p2 (by omega)
        obtain ⟨i1, i2, i3, i4⟩ := iv_all hp p3 hMl
        refine cX8_solve_206 (k := 40) (M_inverse hp p3 hMl k42 (d := 0)) k42 ⟨by decide, by decide⟩ (Nat.le_of_ble_eq_true rfl) ⟨Nat.le_refl _, Nat.le_refl _⟩ (fun r h3 e => ?_)
        obtain ⟨rfl, e⟩ := e; replace e := e.symm; subst e
        refine tX8_solve_209 ?_
        have hS2 := SI_yes (by omega) (by omega) hS p1 p2 i3
        have hlt1 : ∀ r j, r < N - L → j ≤ L → msw k (iv k (M p c)) p dn M r j < k := fun r j h1 h2 => by
          unfold msw
          split
          · exact Nat.mod_lt _ (by omega)
          · split
            · exact hlt dn j (by omega) h2
            · exact hlt r j h1 h2
        have hgo := sv_214 (G := G) (b := b0 1) (Q := Q) (h := hh) (t := t) (c := c) (M := M) (dn := dn) (p := p) (y := iv k (M p c)) hk hLN hN p2 (by omega) (by omega) k42 hlt5 (fun f2 hf2 => ?_) (L + 1) 0 f (by omega) (isM_cg hM (fun r j hr hj => (if_neg (by omega)).symm))
        · rw [up_id k64] at hgo
          exact hgo
        · refine sv_294 (h := hh) (M := msw k (iv k (M p c)) p dn M) hk hLN hN (by omega) (by omega) k42 k63 hlt1 (fun f3 hf3 => ?_) (N - L) 0 f2 (by omega) (isM_cg hf2 (fun r j hr hj => (if_neg (by omega)).symm))
          rw [ec2]
          refine ih _ (dn + 1) _ f3 _ g _ (by omega) hS2 ((up_n _ _ (by decide)).trans (up_s _ _ _)) hf3 (up_s _ _ _) (fun j hj => ?_) ((up_n _ _ (by decide)).trans ((up_n _ _ (by decide)).trans k60)) ((kf.up (by decide)).up (by decide))
          show _ = kI (if j = c then some dn else kp j)
          by_cases hjc : j = c
          · rw [hjc, pk_us, if_pos rfl]; rfl
          · rw [pk_un hjc, if_neg hjc]; exact hkt j hj
  have ini : ∀ m j (f g kt : Nat → Int32) (hh : ah), j + m = L + 1 → hh 64 = aI 40602 f → isM (N - L) (L + 1) f (mz0 s L) → hh 60 = aI 201 g → hh 63 = aI 202 kt → (∀ q, q < j → kt q = -1) → Fr [60, 63, 64] h hh → V G mX8_solve (b0 1) 111 [some (.ref 42), some (.int (nI t)), some (.int (nI L)), some (.int (nI N)), some (.int (nI (N - L))), some (.int (nI (L + 1))), some (.int (nI j))] [] hh Q := by
    intro m
    induction m with
    | zero =>
      intro j f g kt hh hj k64 hM k60 k63 hkt kf
      have hcc : nI L < nI j := nI_lt (by omega) (by omega)
      refine tX8_solve_111 ((kf 42 (by decide)).trans g42) k60 k63 (fun _ => ?_) (fun q => absurd hcc q) (fun q => absurd hcc q) (fun q => absurd hcc q)
      refine col L (mz0 s L) 0 (fun _ => none) f kt g hh (Nat.le_refl _) (SI_0 (fun r j hr hj => ?_)) k64 hM k63 (fun q hq => hkt q (by omega)) k60 kf
      unfold mz0
      split
      · exact (his _ (by omega)).2
      · exact (his _ (by omega)).2
    | succ m ih =>
      intro j f g kt hh hj k64 hM k60 k63 hkt kf
      have hcc : ¬ nI L < nI j := nI_nlt (by omega) (by omega)
      refine tX8_solve_111 ((kf 42 (by decide)).trans g42) k60 k63 (fun q => absurd q hcc) (fun _ => vp_in_nI (by omega) (by decide)) (fun _ => vp_in_nI (by omega) (by decide)) (fun _ => ?_)
      rw [nI_1, nI_clamp (by omega)]
      refine ih (j + 1) f _ _ _ (by omega) ((up_n _ _ (by decide)).trans ((up_n _ _ (by decide)).trans k64)) hM ((up_n _ _ (by decide)).trans (up_s _ _ _)) (up_s _ _ _) (fun q hq => ?_) ((kf.up (by decide)).up (by decide))
      by_cases hqj : q = j
      · rw [hqj, pk_us]
      · rw [pk_un hqj]; exact hkt q (by omega)
  have ct : (nI t).toNatClampNeg = t := nI_clamp (by omega)
  refine Ct_of (by decide +kernel) (Nat.le_of_ble_eq_true rfl) (tX8_solve_0 g42 g56 (vp_in_nI ht (by decide)) ?_)
  rw [ct, hsz, pk_sub hLN, nI_1]
  have hgo := sv_20 (G := G) (b := b0 1) (Q := Q) (h := h) (s := s) ht hLN hN g42 g57 (fun j hj => (his j hj).1) (fun f hf => ini (L + 1) 0 f to n3 _ (by omega) (up_s _ _ _) hf ((up_n _ _ (by decide)).trans g60) ((up_n _ _ (by decide)).trans g63) (fun q hq => by omega) (Fr.rf.up (by decide))) (N - L) 0 mt (by omega) (fun r j hr hj => by omega)
  rw [up_id g64] at hgo
  exact hgo
end RM2
