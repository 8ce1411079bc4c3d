/-! GREED: each word comes just once -/
def addS (S : Nat → Bool) (x : Nat) : Nat → Bool := fun y => if y = x then true else S y
theorem cs_add {S : Nat → Bool} {x M : Nat} (hx : x < M) (h : S x = false) : cs (addS S x) M = cs S M + 1 := by
  rw [← cs_rm (S := addS S x) (if_pos rfl) M hx]
  congr 1
  refine cs_cg M (fun j _ => ?_)
  by_cases hj : j = x
  · rw [if_pos hj, hj, h]
  · rw [if_neg hj, addS, if_neg hj]
theorem cs_full {S : Nat → Bool} {M : Nat} (h : M ≤ cs S M) : ∀ l, l < M → S l = true := fun l hl => by
  cases hb : S l
  · have h1 := cs_add hl hb
    have h2 := cs_le (addS S l) M
    omega
  · rfl
theorem cs_all {S : Nat → Bool} : ∀ M, (∀ l, l < M → S l = true) → cs S M = M
  | 0, _ => rfl
  | M + 1, h => by
    show cs S M + (S M).toNat = M + 1
    rw [cs_all M (fun l hl => h l (by omega)), h M (by omega)]
    rfl
/-- the greatest of b + 1 .. b + l that is not in S, or b -/
def pkl (S : Nat → Bool) (b : Nat) : Nat → Nat
  | 0 => b
  | l + 1 => if S (b + (l + 1)) = true then pkl S b l else b + (l + 1)
theorem pkl_ok (S : Nat → Bool) (b : Nat) : ∀ l, b ≤ pkl S b l ∧ pkl S b l ≤ b + l ∧ (pkl S b l ≠ b → S (pkl S b l) = false) ∧ ∀ m, pkl S b l < b + m → m ≤ l → S (b + m) = true
  | 0 => ⟨Nat.le_refl _, Nat.le_refl _, fun h => absurd rfl h, fun m h1 h2 => by
    have : pkl S b 0 = b := rfl
    omega⟩
  | l + 1 => by
    unfold pkl
    cases hb : S (b + (l + 1)) with
    | true =>
      rw [if_pos rfl]
      obtain ⟨a1, a2, a3, a4⟩ := pkl_ok S b l
      refine ⟨a1, by omega, a3, fun m h1 h2 => ?_⟩
      by_cases hm : m = l + 1
      · rw [hm]; exact hb
      · exact a4 m h1 (by omega)
    | false =>
      rw [if_neg (by decide)]
      exact ⟨by omega, by omega, fun _ => hb, fun m h1 h2 => absurd h1 (by omega)⟩
def gst (k hi : Nat) : Nat → (Nat → Bool) × Nat
  | 0 => (fun y => decide (y = 0), 0)
  | i + 1 => (addS (gst k hi i).1 (pkl (gst k hi i).1 ((gst k hi i).2 % hi * k) (k - 1)), pkl (gst k hi i).1 ((gst k hi i).2 % hi * k) (k - 1))
def gW (k hi i : Nat) : Nat := (gst k hi i).2
def gS (k hi i : Nat) : Nat → Bool := (gst k hi i).1
theorem gW_s (k hi i : Nat) : gW k hi (i + 1) = pkl (gS k hi i) (gW k hi i % hi * k) (k - 1) := rfl
theorem gS_s (k hi i : Nat) : gS k hi (i + 1) = addS (gS k hi i) (gW k hi (i + 1)) := rfl
def oV (k : Nat) (S : Nat → Bool) (u : Nat) : Nat := cs (fun l => S (u * k + l)) k
def iV (k hi : Nat) (S : Nat → Bool) (v : Nat) : Nat := cs (fun a => S (a * hi + v)) k
def e01 (a b : Nat) : Nat := if a = b then 1 else 0
/-- what stands behind word i -/
def gInv (k hi i : Nat) : Prop := gW k hi i < hi * k ∧ gS k hi i (gW k hi i) = true ∧ (∀ w, gS k hi i w = true → w < hi * k) ∧ cs (gS k hi i) (hi * k) = i + 1 ∧ (∀ u, u < hi → oV k (gS k hi i) u + e01 (gW k hi i % hi) u = iV k hi (gS k hi i) u + e01 u 0) ∧ (∀ u, u < hi → u ≠ 0 → gS k hi i (u * k) = true → ∀ l, l < k → gS k hi i (u * k + l) = true) ∧ gS k hi i 0 = true
theorem gInv_0 {k hi : Nat} (hk : 2 ≤ k) (hh : 0 < hi) : gInv k hi 0 := by
  have hN : 0 < hi * k := Nat.mul_pos hh (by omega)
  have e0 : gS k hi 0 = addS (fun _ => false) 0 := by
    funext y
    show decide (y = 0) = if y = 0 then true else false
    by_cases hy : y = 0
    · rw [if_pos hy, decide_eq_true hy]
    · rw [if_neg hy, decide_eq_false hy]
  have z : ∀ M, cs (fun _ => false) M = 0 := by
    intro M
    induction M with
    | zero => rfl
    | succ M ih => show cs (fun _ => false) M + 0 = 0; rw [ih]
  refine ⟨hN, rfl, fun w hw => ?_, ?_, fun u hu => ?_, fun u hu h0 hs => ?_, rfl⟩
  · have : w = 0 := of_decide_eq_true hw
    omega
  · rw [e0, cs_add hN rfl, z]
  · have w0 : gW k hi 0 % hi = 0 := Nat.zero_mod hi
    rw [w0]
    by_cases hu0 : u = 0
    · subst hu0
      have h1 : oV k (gS k hi 0) 0 = 1 := by
        have : oV k (gS k hi 0) 0 = cs (addS (fun _ => false) 0) k := cs_cg k (fun l _ => by rw [Nat.zero_mul, Nat.zero_add, e0])
        rw [this, cs_add (by omega) rfl, z]
      have h2 : iV k hi (gS k hi 0) 0 = 1 := by
        have : iV k hi (gS k hi 0) 0 = cs (addS (fun _ => false) 0) k := cs_cg k (fun a _ => by
          rw [e0, Nat.add_zero]
          unfold addS
          by_cases ha : a = 0
          · rw [ha, Nat.zero_mul]
          · have : 0 < a * hi := Nat.mul_pos (by omega) hh
            rw [if_neg ha, if_neg (by omega)])
        rw [this, cs_add (by omega) rfl, z]
      rw [h1, h2]
    · have h1 : oV k (gS k hi 0) u = 0 := by
        refine Eq.trans (cs_cg (S2 := fun _ => false) k (fun l _ => ?_)) (z k)
        have : 0 < u * k := Nat.mul_pos (by omega) (by omega)
        exact decide_eq_false (by omega)
      have h2 : iV k hi (gS k hi 0) u = 0 := by
        refine Eq.trans (cs_cg (S2 := fun _ => false) k (fun a _ => ?_)) (z k)
        exact decide_eq_false (by omega)
      rw [h1, h2, e01, e01, if_neg (fun q => hu0 q.symm), if_neg hu0]
  · have : u * k = 0 := of_decide_eq_true hs
    have : 0 < u * k := Nat.mul_pos (by omega) (by omega)
    omega
/-- the word that comes is new -/
theorem g_new {k n i : Nat} (hk : 2 ≤ k) (hn : 1 ≤ n) (h : gInv k (k ^ (n - 1)) i) (hi2 : i + 1 < k ^ (n - 1) * k) : gS k (k ^ (n - 1)) i (gW k (k ^ (n - 1)) (i + 1)) = false := by
  have hp : 0 < k ^ (n - 1) := Nat.pow_pos (by omega)
  obtain ⟨h1, h2, h3, h4, h5, h6, h7⟩ := h
  cases hb : gS k (k ^ (n - 1)) i (gW k (k ^ (n - 1)) (i + 1)) with
  | false => rfl
  | true =>
    exfalso
    generalize hS : gS k (k ^ (n - 1)) i = S at *
    generalize hw : gW k (k ^ (n - 1)) i = w at *
    rw [gW_s, hS, hw] at hb
    obtain ⟨p1, p2, p3, p4⟩ := pkl_ok S (w % k ^ (n - 1) * k) (k - 1)
    have hc : w % k ^ (n - 1) < k ^ (n - 1) := Nat.mod_lt _ hp
    have pb : pkl S (w % k ^ (n - 1) * k) (k - 1) = w % k ^ (n - 1) * k := Decidable.byContradiction (fun q => by rw [p3 q] at hb; exact absurd hb (by decide))
    have full : ∀ l, l < k → S (w % k ^ (n - 1) * k + l) = true := fun l hl => by
      by_cases hl0 : l = 0
      · rw [hl0, Nat.add_zero, ← pb]; exact hb
      · exact p4 l (by rw [pb]; omega) (by omega)
    have ok : oV k S (w % k ^ (n - 1)) = k := cs_all k full
    have hbal := h5 _ hc
    have hiv := cs_le (fun a => S (a * k ^ (n - 1) + w % k ^ (n - 1))) k
    have c0 : w % k ^ (n - 1) = 0 := Decidable.byContradiction (fun q => by
      rw [ok, e01, if_pos rfl, e01, if_neg q] at hbal
      have : iV k (k ^ (n - 1)) S (w % k ^ (n - 1)) = k + 1 := by omega
      unfold iV at this
      omega)
    rw [c0] at full
    have fin : ∀ u, u < k ^ (n - 1) → (∀ l, l < k → S (u * k + l) = true) → ∀ a, a < k → S (a * k ^ (n - 1) + u) = true := fun u hu hf => by
      have hb2 := h5 u hu
      rw [c0, show oV k S u = k from cs_all k hf] at hb2
      have e : e01 0 u = e01 u 0 := by
        unfold e01
        by_cases hu0 : u = 0
        · rw [if_pos hu0.symm, if_pos hu0]
        · rw [if_neg (fun q => hu0 q.symm), if_neg hu0]
      refine cs_full (S := fun a => S (a * k ^ (n - 1) + u)) ?_
      show k ≤ iV k (k ^ (n - 1)) S u
      omega
    have all : ∀ j, j ≤ n - 1 → ∀ u, u < k ^ (n - 1) → u % k ^ (n - 1 - j) = 0 → ∀ l, l < k → S (u * k + l) = true := by
      intro j
      induction j with
      | zero =>
        intro _ u hu hm
        rw [Nat.sub_zero, Nat.mod_eq_of_lt hu] at hm
        rw [hm]
        exact full
      | succ j ih =>
        intro hj u hu hm
        by_cases hu0 : u = 0
        · rw [hu0]; exact full
        · have hv : u * k % k ^ (n - 1) < k ^ (n - 1) := Nat.mod_lt _ hp
          have hvm : u * k % k ^ (n - 1) % k ^ (n - 1 - j) = 0 := by
            have hd : k ^ (n - 1) = k ^ (n - 1 - j) * k ^ j := by rw [← Nat.pow_add]; congr 1; omega
            rw [hd, Nat.mod_mul_right_mod]
            have he : k ^ (n - 1 - j) = k ^ (n - 1 - (j + 1)) * k := by rw [← Nat.pow_succ]; congr 1; omega
            rw [he, Nat.mul_mod_mul_right, hm, Nat.zero_mul]
          have hin := fin _ hv (ih (by omega) _ hv hvm)
          have hq : u * k / k ^ (n - 1) < k := by
            rw [Nat.div_lt_iff_lt_mul hp, Nat.mul_comm k]
            exact Nat.mul_lt_mul_of_pos_right hu (by omega)
          have hs := hin _ hq
          rw [Nat.mul_comm (u * k / k ^ (n - 1)), Nat.div_add_mod] at hs
          exact h6 u hu hu0 hs
    have every : ∀ x, x < k ^ (n - 1) * k → S x = true := fun x hx => by
      have hxu : x / k < k ^ (n - 1) := by rw [Nat.div_lt_iff_lt_mul (by omega)]; exact hx
      have := all (n - 1) (Nat.le_refl _) (x / k) hxu (by rw [Nat.sub_self, Nat.pow_zero, Nat.mod_one]) (x % k) (Nat.mod_lt _ (by omega))
      rw [Nat.mul_comm, Nat.div_add_mod] at this
      exact this
    have := cs_all _ every
    omega
theorem gInv_s {k n i : Nat} (hk : 2 ≤ k) (hn : 1 ≤ n) (h : gInv k (k ^ (n - 1)) i) (hi2 : i + 1 < k ^ (n - 1) * k) : gInv k (k ^ (n - 1)) (i + 1) := by
  have hnew := g_new hk hn h hi2
  have hp : 0 < k ^ (n - 1) := Nat.pow_pos (by omega)
  obtain ⟨h1, h2, h3, h4, h5, h6, h7⟩ := h
  have hSs := gS_s k (k ^ (n - 1)) i
  have hWs := gW_s k (k ^ (n - 1)) i
  obtain ⟨p1, p2, p3, p4⟩ := pkl_ok (gS k (k ^ (n - 1)) i) (gW k (k ^ (n - 1)) i % k ^ (n - 1) * k) (k - 1)
  rw [← hWs] at p1 p2 p3 p4
  generalize hx : gW k (k ^ (n - 1)) (i + 1) = x at *
  generalize hS : gS k (k ^ (n - 1)) i = S at *
  generalize hw : gW k (k ^ (n - 1)) i = w at *
  have hc : w % k ^ (n - 1) < k ^ (n - 1) := Nat.mod_lt _ hp
  have hxN : x < k ^ (n - 1) * k := by
    have : (w % k ^ (n - 1) + 1) * k ≤ k ^ (n - 1) * k := Nat.mul_le_mul_right k hc
    rw [Nat.add_mul, Nat.one_mul] at this
    omega
  have hxk : x / k = w % k ^ (n - 1) := by
    have e : x = w % k ^ (n - 1) * k + (x - w % k ^ (n - 1) * k) := by omega
    exact (dm_u (M := k) (by omega) e).1
  have sx : ∀ y, addS S x y = true → y = x ∨ S y = true := fun y hy => by
    unfold addS at hy
    by_cases q : y = x
    · exact Or.inl q
    · rw [if_neg q] at hy; exact Or.inr hy
  have ss : ∀ y, S y = true → addS S x y = true := fun y hy => by
    unfold addS
    split
    · rfl
    · exact hy
  unfold gInv
  rw [hx, hSs]
  refine ⟨hxN, if_pos rfl, fun y hy => ?_, ?_, fun u hu => ?_, fun u hu hu0 hs l hl => ?_, ss 0 h7⟩
  · rcases sx y hy with q | q
    · rw [q]; exact hxN
    · exact h3 y q
  · rw [cs_add hxN hnew, h4]
  · have o1 : oV k (addS S x) u = oV k S u + e01 (x / k) u := by
      unfold e01
      by_cases q : x / k = u
      · rw [if_pos q]
        have hf : (fun l => S (u * k + l)) (x % k) = false := by
          show S (u * k + x % k) = false
          rw [← q, Nat.mul_comm, Nat.div_add_mod]
          exact hnew
        rw [oV, oV, ← cs_add (S := fun l => S (u * k + l)) (x := x % k) (Nat.mod_lt _ (by omega)) hf]
        refine cs_cg k (fun l hl => ?_)
        unfold addS
        by_cases hl2 : l = x % k
        · rw [if_pos hl2, if_pos]
          rw [hl2, ← q, Nat.mul_comm, Nat.div_add_mod]
        · rw [if_neg hl2, if_neg]
          intro z
          apply hl2
          exact (dm_u hl z.symm).2.symm
      · rw [if_neg q]
        refine cs_cg k (fun l hl => ?_)
        unfold addS
        rw [if_neg]
        intro z
        exact q (dm_u hl z.symm).1
    have o2 : iV k (k ^ (n - 1)) (addS S x) u = iV k (k ^ (n - 1)) S u + e01 (x % k ^ (n - 1)) u := by
      unfold e01
      by_cases q : x % k ^ (n - 1) = u
      · rw [if_pos q]
        have hxd : x / k ^ (n - 1) < k := by rw [Nat.div_lt_iff_lt_mul hp, Nat.mul_comm]; exact hxN
        have hf : (fun a => S (a * k ^ (n - 1) + u)) (x / k ^ (n - 1)) = false := by
          show S (x / k ^ (n - 1) * k ^ (n - 1) + u) = false
          rw [← q, Nat.mul_comm, Nat.div_add_mod]
          exact hnew
        rw [iV, iV, ← cs_add (S := fun a => S (a * k ^ (n - 1) + u)) (x := x / k ^ (n - 1)) hxd hf]
        refine cs_cg k (fun a ha => ?_)
        unfold addS
        by_cases ha2 : a = x / k ^ (n - 1)
        · rw [if_pos ha2, if_pos]
          rw [ha2, ← q, Nat.mul_comm, Nat.div_add_mod]
        · rw [if_neg ha2, if_neg]
          intro z
          apply ha2
          exact (dm_u hu z.symm).1.symm
      · rw [if_neg q]
        refine cs_cg k (fun a ha => ?_)
        unfold addS
        rw [if_neg]
        intro z
        exact q (dm_u hu z.symm).2
    have hb := h5 u hu
    rw [o1, o2, hxk]
    omega
  · rcases sx _ hs with q | q
    · by_cases hl0 : l = 0
      · rw [hl0, Nat.add_zero, q]
        exact if_pos rfl
      · have hub : u * k = w % k ^ (n - 1) * k := by
          have : u * k / k = u := Nat.mul_div_cancel _ (by omega)
          rw [q, hxk] at this
          rw [← this]
        refine ss _ ?_
        rw [hub]
        exact p4 l (by omega) (by omega)
    · exact ss _ (h6 u hu hu0 q l hl)
theorem gInv_all {k n : Nat} (hk : 2 ≤ k) (hn : 1 ≤ n) : ∀ i, i < k ^ (n - 1) * k → gInv k (k ^ (n - 1)) i
  | 0, _ => gInv_0 hk (Nat.pow_pos (by omega))
  | i + 1, h => gInv_s hk hn (gInv_all hk hn i (by omega)) h
