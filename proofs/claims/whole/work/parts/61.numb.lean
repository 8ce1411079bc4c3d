/-! NUMBERING of the cycles -/
def mark (T : Nat → Nat) (z : Int32) : Nat → (Nat → Int32) → Nat → (Nat → Int32)
  | 0, c, _ => c
  | m + 1, c, x => if c x = -1 then mark T z m (upd c x z) (T x) else c
theorem nI_nm1 {j : Nat} (h : j ≤ 20000) : ¬ nI j = -1 := fun e => by
  have := congrArg Int32.toInt e
  rw [nI_toInt (by omega)] at this
  have h2 : (-1 : Int32).toInt = -1 := by decide
  omega
theorem upd_ag {N : Nat} {c c2 : Nat → Int32} {x : Nat} {z : Int32} (h : ∀ y, y < N → c y = c2 y) : ∀ y, y < N → upd c x z y = upd c2 x z y := fun y hy => by
  by_cases hc : y = x
  · rw [hc, pk_us, pk_us]
  · rw [pk_un hc, pk_un hc]; exact h y hy
theorem mark_ag {N : Nat} {T : Nat → Nat} (hT : ∀ x, x < N → T x < N) {z : Int32} : ∀ m (c c2 : Nat → Int32) x, x < N → (∀ y, y < N → c y = c2 y) → ∀ y, y < N → mark T z m c x y = mark T z m c2 x y
  | 0, _, _, _, _, h => h
  | m + 1, c, c2, x, hx, h => by
    intro y hy
    unfold mark
    rw [h x hx]
    by_cases hc : c2 x = -1
    · rw [if_pos hc, if_pos hc]
      exact mark_ag hT m _ _ _ (hT x hx) (upd_ag h) y hy
    · rw [if_neg hc, if_neg hc]
      exact h y hy
def unB (c : Nat → Int32) (x : Nat) : Bool := decide (c x = -1)
theorem un_upd {N : Nat} {c : Nat → Int32} {x : Nat} {z : Int32} (hx : x < N) (hc : c x = -1) (hz : ¬ z = -1) : cs (unB (upd c x z)) N + 1 = cs (unB c) N := by
  rw [← cs_rm (S := unB c) (decide_eq_true hc) N hx]
  congr 1
  refine cs_cg N (fun j _ => ?_)
  by_cases hj : j = x
  · rw [if_pos hj, unB, hj, pk_us, decide_eq_false hz]
  · rw [if_neg hj, unB, pk_un hj]
    rfl
theorem un_pos {N : Nat} {c : Nat → Int32} {x : Nat} (hx : x < N) (hc : c x = -1) : 0 < cs (unB c) N := by
  rw [← cs_rm (S := unB c) (decide_eq_true hc) N hx]
  omega
theorem mark_sp {N : Nat} {T : Nat → Nat} (h : pm N T) {z : Int32} (hz : ¬ z = -1) {c : Nat → Int32} {w : Nat} (hw : w < N) (hc : ∀ y, rel T w y → c y = -1) : (∀ y, rel T w y → mark T z N c w y = z) ∧ (∀ y, ¬ rel T w y → mark T z N c w y = c y) := by
  obtain ⟨p, ⟨p1, pN, p3⟩, hmin⟩ := per h hw
  have dis : ∀ i j, i < j → j < p → itr T i w ≠ itr T j w := fun i j hij hj e => by
    have e2 : itr T i w = itr T i (itr T (j - i) w) := by rw [← itr_add, show i + (j - i) = j by omega]; exact e
    exact hmin (j - i) (by omega) ⟨by omega, by omega, (itr_inj h hw (itr_lt h hw _) i e2).symm⟩
  have key : ∀ q i f (d : Nat → Int32), i + q = p → q ≤ f → (∀ j, j < i → d (itr T j w) = z) → (∀ y, (∀ j, j < i → y ≠ itr T j w) → d y = c y) → (∀ j, j < p → mark T z f d (itr T i w) (itr T j w) = z) ∧ (∀ y, (∀ j, j < p → y ≠ itr T j w) → mark T z f d (itr T i w) y = c y) := by
    intro q
    induction q with
    | zero =>
      intro i f d hi hf h1 h2
      have hip : i = p := by omega
      have e : mark T z f d (itr T i w) = d := by
        rw [hip, p3]
        match f with
        | 0 => rfl
        | f + 1 =>
          unfold mark
          rw [if_neg (by have := h1 0 (by omega); rw [show itr T 0 w = w from rfl] at this; rw [this]; exact hz)]
      rw [e]
      exact ⟨fun j hj => h1 j (by omega), fun y hy => h2 y (fun j hj => hy j (by omega))⟩
    | succ q ih =>
      intro i f d hi hf h1 h2
      obtain ⟨f2, rfl⟩ : ∃ f2, f = f2 + 1 := ⟨f - 1, by omega⟩
      have e0 : d (itr T i w) = -1 := by
        rw [h2 _ (fun j hj => (dis j i hj (by omega)).symm)]
        exact hc _ ⟨i, rfl⟩
      unfold mark
      rw [if_pos e0]
      refine ih (i + 1) f2 (upd d (itr T i w) z) (by omega) (by omega) (fun j hj => ?_) (fun y hy => ?_)
      · by_cases hji : j = i
        · rw [hji, pk_us]
        · rw [pk_un (dis j i (by omega) (by omega))]
          exact h1 j (by omega)
      · rw [pk_un (hy i (by omega))]
        exact h2 y (fun j hj => hy j (by omega))
  obtain ⟨k1, k2⟩ := key p 0 N c (by omega) pN (fun j hj => absurd hj (Nat.not_lt_zero j)) (fun y _ => rfl)
  have orb : ∀ y, rel T w y → ∃ j, j < p ∧ y = itr T j w := by
    rintro y ⟨i, rfl⟩
    refine ⟨i % p, Nat.mod_lt _ p1, ?_⟩
    have := Nat.div_add_mod i p
    calc itr T i w = itr T (i % p + i / p * p) w := by rw [Nat.mul_comm (i / p), Nat.add_comm, this]
      _ = _ := by rw [itr_add, itr_mul p3]
  refine ⟨fun y hy => ?_, fun y hy => k2 y (fun j _ e => hy ⟨j, e.symm⟩)⟩
  obtain ⟨j, hj, rfl⟩ := orb y hy
  exact k1 j hj
def numb (T : Nat → Nat) (N : Nat) : Nat → Nat → (Nat → Int32) → (Nat → Int32) → Nat → (Nat → Int32) × (Nat → Int32) × Nat
  | 0, _, c, lw, q => (c, lw, q)
  | m + 1, w, c, lw, q => if c w = -1 then numb T N m (w + 1) (mark T (nI q) N c w) (upd lw q (nI w)) (q + 1) else numb T N m (w + 1) c lw q
/-- what stands behind the words below w -/
def nInv (T : Nat → Nat) (N w : Nat) (c lw : Nat → Int32) (q : Nat) : Prop :=
  (∀ x, x < N → c x = -1 ∨ ∃ j, j < q ∧ c x = nI j) ∧ (∀ x, x < w → ¬ c x = -1) ∧ (∀ x y, x < N → y < N → ¬ c x = -1 → (c y = c x ↔ rel T x y)) ∧ (∀ j, j < q → ∃ l, l < w ∧ lw j = nI l ∧ c l = nI j ∧ ∀ x, x < N → c x = nI j → l ≤ x) ∧ q = cs (lsB T) w
theorem numb_ok {T : Nat → Nat} {N : Nat} (h : pm N T) (hN : N ≤ 20000) : ∀ m w c lw q, w + m = N → nInv T N w c lw q → nInv T N N (numb T N m w c lw q).1 (numb T N m w c lw q).2.1 (numb T N m w c lw q).2.2
  | 0, w, c, lw, q, hw, hi => by
    have : w = N := by omega
    subst this
    exact hi
  | m + 1, w, c, lw, q, hw, ⟨ia, ib, ic, id, ie⟩ => by
    have hwN : w < N := by omega
    have hqw : q ≤ w := by rw [ie]; exact cs_le _ _
    unfold numb
    by_cases hc : c w = -1
    · rw [if_pos hc]
      have free : ∀ y, rel T w y → c y = -1 := fun y hy => Decidable.byContradiction (fun z => by
        have hyN := rel_lt h hwN hy
        have := (ic y w hyN hwN z).mpr (rel_sy h hwN hy)
        exact z (this.symm.trans hc))
      have nq : ¬ nI q = -1 := nI_nm1 (by omega)
      obtain ⟨s1, s2⟩ := mark_sp h nq hwN free
      have notw : ∀ x, x < w → ¬ rel T w x := fun x hx hr => ib x hx (free x hr)
      have neq : ∀ x, x < N → ¬ c x = nI q := fun x hx e => by
        rcases ia x hx with z | ⟨j, hj, z⟩
        · exact nq (e.symm.trans z)
        · have := (nI_eq (a := j) (b := q) (by omega) (by omega)).mp (z.symm.trans e)
          omega
      refine numb_ok h hN m (w + 1) _ _ _ (by omega) ⟨fun x hx => ?_, fun x hx => ?_, fun x y hx hy hne => ?_, fun j hj => ?_, ?_⟩
      · by_cases hr : rel T w x
        · rw [s1 x hr]; exact Or.inr ⟨q, by omega, rfl⟩
        · rw [s2 x hr]
          rcases ia x hx with z | ⟨j, hj, z⟩
          · exact Or.inl z
          · exact Or.inr ⟨j, by omega, z⟩
      · by_cases hr : rel T w x
        · rw [s1 x hr]; exact nq
        · rw [s2 x hr]
          refine ib x (Nat.lt_of_le_of_ne (by omega) (fun e => hr (by rw [e]; exact rel_rf T w)))
      · by_cases hrx : rel T w x
        · rw [s1 x hrx]
          by_cases hry : rel T w y
          · rw [s1 y hry]
            exact ⟨fun _ => rel_tr (rel_sy h hwN hrx) hry, fun _ => rfl⟩
          · rw [s2 y hry]
            exact ⟨fun e => absurd e (neq y hy), fun e => absurd (rel_tr hrx e) hry⟩
        · rw [s2 x hrx] at hne ⊢
          by_cases hry : rel T w y
          · rw [s1 y hry]
            exact ⟨fun e => absurd e.symm (neq x hx), fun e => absurd (rel_tr hry (rel_sy h hx e)) hrx⟩
          · rw [s2 y hry]
            exact ic x y hx hy hne
      · by_cases hjq : j = q
        · subst hjq
          refine ⟨w, by omega, pk_us, s1 w (rel_rf T w), fun x hx e => ?_⟩
          have hr : rel T w x := Decidable.byContradiction (dec := Classical.propDecidable _) (fun z => by rw [s2 x z] at e; exact neq x hx e)
          exact Nat.le_of_not_lt (fun z => notw x z hr)
        · obtain ⟨l, l1, l2, l3, l4⟩ := id j (by omega)
          have nl : ¬ rel T w l := fun z => by
            have := free l z
            rw [l3] at this
            exact nI_nm1 (by omega) this
          refine ⟨l, by omega, by rw [pk_un hjq]; exact l2, by rw [s2 l nl]; exact l3, fun x hx e => ?_⟩
          have nr : ¬ rel T w x := fun z => by
            rw [s1 x z] at e
            exact hjq ((nI_eq (a := j) (b := q) (by omega) (by omega)).mp e.symm)
          rw [s2 x nr] at e
          exact l4 x hx e
      · show q + 1 = cs (lsB T) w + (lsB T w).toNat
        rw [lsB_iff.mpr notw, ie]
        rfl
    · rw [if_neg hc]
      refine numb_ok h hN m (w + 1) _ _ _ (by omega) ⟨ia, fun x hx => ?_, ic, fun j hj => ?_, ?_⟩
      · by_cases hxw : x = w
        · rw [hxw]; exact hc
        · exact ib x (by omega)
      · obtain ⟨l, l1, l2⟩ := id j hj
        exact ⟨l, by omega, l2⟩
      · have hf : lsB T w = false := by
          cases hb : lsB T w
          · rfl
          · exfalso
            rcases ia w hwN with z | ⟨j, hj, z⟩
            · exact hc z
            · obtain ⟨l, l1, l2, l3, l4⟩ := id j hj
              exact lsB_iff.mp hb l l1 ((ic w l hwN (by omega) hc).mp (by rw [l3, z]))
        show q = cs (lsB T) w + (lsB T w).toNat
        rw [hf, ie]
        rfl
def nr (T : Nat → Nat) (N : Nat) : (Nat → Int32) × (Nat → Int32) × Nat := numb T N N 0 (fun _ => -1) (fun _ => 0) 0
def nC (T : Nat → Nat) (N : Nat) : Nat → Int32 := (nr T N).1
def nL (T : Nat → Nat) (N : Nat) : Nat → Int32 := (nr T N).2.1
def nQ (T : Nat → Nat) (N : Nat) : Nat := (nr T N).2.2
theorem nr_ok {T : Nat → Nat} {N : Nat} (h : pm N T) (hN : N ≤ 20000) : nInv T N N (nC T N) (nL T N) (nQ T N) :=
  numb_ok h hN N 0 _ _ _ (Nat.zero_add N) ⟨fun _ _ => Or.inl rfl, fun x hx => absurd hx (Nat.not_lt_zero x), fun _ _ _ _ hne => absurd rfl hne, fun j hj => absurd hj (Nat.not_lt_zero j), rfl⟩
theorem nQ_cs {T : Nat → Nat} {N : Nat} (h : pm N T) (hN : N ≤ 20000) : nQ T N = cs (lsB T) N := (nr_ok h hN).2.2.2.2
theorem nQ_le {T : Nat → Nat} {N : Nat} (h : pm N T) (hN : N ≤ 20000) : nQ T N ≤ N := by rw [nQ_cs h hN]; exact cs_le _ _
theorem nC_rel {T : Nat → Nat} {N x y : Nat} (h : pm N T) (hN : N ≤ 20000) (hx : x < N) (hy : y < N) : nC T N x = nC T N y ↔ rel T x y := by
  obtain ⟨-, b, c, -⟩ := nr_ok h hN
  rw [← c x y hx hy (b x hx)]
  exact ⟨fun e => e.symm, fun e => e.symm⟩
theorem nC_val {T : Nat → Nat} {N x : Nat} (h : pm N T) (hN : N ≤ 20000) (hx : x < N) : ∃ j, j < nQ T N ∧ nC T N x = nI j := by
  obtain ⟨a, b, -⟩ := nr_ok h hN
  rcases a x hx with z | z
  · exact absurd z (b x hx)
  · exact z
theorem nL_val {T : Nat → Nat} {N j : Nat} (h : pm N T) (hN : N ≤ 20000) (hj : j < nQ T N) : ∃ l, l < N ∧ nL T N j = nI l ∧ nC T N l = nI j ∧ ∀ x, x < N → nC T N x = nI j → l ≤ x := (nr_ok h hN).2.2.2.1 j hj
theorem nQ_pos {T : Nat → Nat} {N : Nat} (h : pm N T) (hN : N ≤ 20000) (h0 : 0 < N) : 0 < nQ T N := by
  obtain ⟨j, hj, -⟩ := nC_val h hN h0
  omega
