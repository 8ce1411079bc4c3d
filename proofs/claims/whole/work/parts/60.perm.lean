/-! PERMUTATIONS of the words below N: cycles, and how an exchange changes their number -/
def itr (T : Nat → Nat) : Nat → Nat → Nat
  | 0, x => x
  | i + 1, x => T (itr T i x)
theorem itr_add (T : Nat → Nat) (b x : Nat) : ∀ a, itr T (a + b) x = itr T a (itr T b x)
  | 0 => by rw [Nat.zero_add]; rfl
  | a + 1 => by
    rw [Nat.succ_add]
    show T (itr T (a + b) x) = T (itr T a (itr T b x))
    rw [itr_add T b x a]
def rel (T : Nat → Nat) (x y : Nat) : Prop := ∃ i, itr T i x = y
abbrev pm (N : Nat) (T : Nat → Nat) : Prop := (∀ x, x < N → T x < N) ∧ inj N T
theorem itr_lt {N : Nat} {T : Nat → Nat} (h : pm N T) {x : Nat} (hx : x < N) : ∀ i, itr T i x < N
  | 0 => hx
  | i + 1 => h.1 _ (itr_lt h hx i)
theorem itr_inj {N : Nat} {T : Nat → Nat} (h : pm N T) {x y : Nat} (hx : x < N) (hy : y < N) : ∀ i, itr T i x = itr T i y → x = y
  | 0, e => e
  | i + 1, e => itr_inj h hx hy i (h.2 _ _ (itr_lt h hx i) (itr_lt h hy i) e)
theorem cs_rm {S : Nat → Bool} {x : Nat} (hS : S x = true) : ∀ N, x < N → cs (fun j => if j = x then false else S j) N + 1 = cs S N
  | 0, h => absurd h (Nat.not_lt_zero x)
  | N + 1, h => by
    show cs (fun j => if j = x then false else S j) N + (if N = x then false else S N).toNat + 1 = cs S N + (S N).toNat
    by_cases hx : N = x
    · subst hx
      rw [if_pos rfl, hS, cs_cg (S2 := S) N (fun j hj => if_neg (by omega))]
      rfl
    · rw [if_neg hx, ← cs_rm hS N (by omega)]
      omega
theorem pig {N : Nat} {f : Nat → Nat} : ∀ m (S : Nat → Bool), (∀ i, i < m → f i < N ∧ S (f i) = true) → (∀ i j, i < j → j < m → f i ≠ f j) → m ≤ cs S N
  | 0, _, _, _ => Nat.zero_le _
  | m + 1, S, h1, h2 => by
    have hm := h1 m (by omega)
    have := pig m (fun j => if j = f m then false else S j) (fun i hi => ⟨(h1 i (by omega)).1, by
      show (if f i = f m then false else S (f i)) = true
      rw [if_neg (h2 i m hi (by omega))]
      exact (h1 i (by omega)).2⟩) (fun i j hi hj => h2 i j hi (by omega))
    have := cs_rm hm.2 N hm.1
    omega
theorem per {N : Nat} {T : Nat → Nat} (h : pm N T) {x : Nat} (hx : x < N) : ∃ p, (1 ≤ p ∧ p ≤ N ∧ itr T p x = x) ∧ ∀ q, q < p → ¬ (1 ≤ q ∧ q ≤ N ∧ itr T q x = x) := by
  apply pk_least (fun p => 1 ≤ p ∧ p ≤ N ∧ itr T p x = x)
  apply Decidable.byContradiction (dec := Classical.propDecidable _)
  intro hn
  have key := pig (N := N) (f := fun i => itr T i x) (N + 1) (fun _ => true) (fun i _ => ⟨itr_lt h hx i, rfl⟩) (fun i j hij hj e => by
    have e2 : itr T i x = itr T i (itr T (j - i) x) := by rw [← itr_add, show i + (j - i) = j by omega]; exact e
    have e3 := itr_inj h hx (itr_lt h hx _) i e2
    exact hn ⟨j - i, by omega, by omega, e3.symm⟩)
  have := cs_le (fun _ => true) N
  omega
theorem rel_rf (T : Nat → Nat) (x : Nat) : rel T x x := ⟨0, rfl⟩
theorem rel_T (T : Nat → Nat) (x : Nat) : rel T x (T x) := ⟨1, rfl⟩
theorem rel_tr {T : Nat → Nat} {x y z : Nat} (h1 : rel T x y) (h2 : rel T y z) : rel T x z := by
  obtain ⟨i, rfl⟩ := h1
  obtain ⟨j, rfl⟩ := h2
  exact ⟨j + i, itr_add T i x j⟩
theorem rel_lt {N : Nat} {T : Nat → Nat} (h : pm N T) {x y : Nat} (hx : x < N) (hr : rel T x y) : y < N := by
  obtain ⟨i, rfl⟩ := hr
  exact itr_lt h hx i
theorem itr_mul {T : Nat → Nat} {p x : Nat} (hp : itr T p x = x) : ∀ q, itr T (q * p) x = x
  | 0 => by rw [Nat.zero_mul]; rfl
  | q + 1 => by rw [Nat.succ_mul, itr_add, hp]; exact itr_mul hp q
theorem rel_sy {N : Nat} {T : Nat → Nat} (h : pm N T) {x y : Nat} (hx : x < N) (hr : rel T x y) : rel T y x := by
  obtain ⟨i, rfl⟩ := hr
  obtain ⟨p, ⟨p1, -, p3⟩, -⟩ := per h hx
  refine ⟨i * p - i, ?_⟩
  have hle : i ≤ i * p := Nat.le_mul_of_pos_right i p1
  rw [← itr_add, show i * p - i + i = i * p by omega]
  exact itr_mul p3 i
/-- the word before -/
theorem rel_pre {N : Nat} {T : Nat → Nat} (h : pm N T) {x : Nat} (hx : x < N) : ∃ y, y < N ∧ T y = x ∧ rel T x y := by
  obtain ⟨p, ⟨p1, -, p3⟩, -⟩ := per h hx
  refine ⟨itr T (p - 1) x, itr_lt h hx _, ?_, ⟨p - 1, rfl⟩⟩
  have : itr T (p - 1 + 1) x = x := by rw [show p - 1 + 1 = p by omega]; exact p3
  exact this
def sw (T : Nat → Nat) (a b : Nat) : Nat → Nat := fun x => if x = a then T b else if x = b then T a else T x
theorem sw_a (T : Nat → Nat) (a b : Nat) : sw T a b a = T b := if_pos rfl
theorem sw_b (T : Nat → Nat) (a b : Nat) : sw T a b b = T a := by
  unfold sw
  by_cases h : b = a
  · rw [if_pos h, h]
  · rw [if_neg h, if_pos rfl]
theorem sw_n {T : Nat → Nat} {a b x : Nat} (h1 : x ≠ a) (h2 : x ≠ b) : sw T a b x = T x := by
  unfold sw
  rw [if_neg h1, if_neg h2]
theorem sw_sw (T : Nat → Nat) (a b : Nat) : sw (sw T a b) a b = T := by
  funext x
  by_cases h1 : x = a
  · rw [h1, sw_a, sw_b]
  · by_cases h2 : x = b
    · rw [h2, sw_b, sw_a]
    · rw [sw_n h1 h2, sw_n h1 h2]
theorem sw_lt {N : Nat} {T : Nat → Nat} (h : ∀ x, x < N → T x < N) {a b : Nat} (ha : a < N) (hb : b < N) : ∀ x, x < N → sw T a b x < N := fun x hx => by
  unfold sw
  split
  · exact h b hb
  · split
    · exact h a ha
    · exact h x hx
theorem sw_inj1 {N : Nat} {T : Nat → Nat} (h : inj N T) {a b : Nat} (ha : a < N) (hb : b < N) : inj N (sw T a b) := fun x y hx hy e => by
  by_cases x1 : x = a
  · rw [x1, sw_a] at e
    by_cases y1 : y = a
    · rw [x1, y1]
    · by_cases y2 : y = b
      · rw [y2, sw_b] at e
        rw [x1, y2]; exact (h _ _ hb ha e).symm
      · rw [sw_n y1 y2] at e
        exact absurd (h _ _ hb hy e).symm y2
  · by_cases x2 : x = b
    · rw [x2, sw_b] at e
      by_cases y1 : y = a
      · rw [y1, sw_a] at e
        rw [x2, y1]; exact (h _ _ ha hb e).symm
      · by_cases y2 : y = b
        · rw [x2, y2]
        · rw [sw_n y1 y2] at e
          exact absurd (h _ _ ha hy e).symm y1
    · rw [sw_n x1 x2] at e
      by_cases y1 : y = a
      · rw [y1, sw_a] at e
        exact absurd (h _ _ hx hb e) x2
      · by_cases y2 : y = b
        · rw [y2, sw_b] at e
          exact absurd (h _ _ hx ha e) x1
        · rw [sw_n y1 y2] at e
          exact h _ _ hx hy e
theorem sw_inj {N : Nat} {T : Nat → Nat} {a b : Nat} (ha : a < N) (hb : b < N) : inj N (sw T a b) ↔ inj N T :=
  ⟨fun h => by have := sw_inj1 h ha hb; rw [sw_sw] at this; exact this, fun h => sw_inj1 h ha hb⟩
theorem sw_pm {N : Nat} {T : Nat → Nat} (h : pm N T) {a b : Nat} (ha : a < N) (hb : b < N) : pm N (sw T a b) := ⟨sw_lt h.1 ha hb, sw_inj1 h.2 ha hb⟩
section MG2
variable {N : Nat} {T : Nat → Nat} {a b : Nat}
theorem mg_1 (h : pm N T) (ha : a < N) (hb : b < N) (hd : ¬ rel T a b) : ∀ i, rel (sw T a b) a (itr T (i + 1) b)
  | 0 => ⟨1, sw_a T a b⟩
  | i + 1 => by
    have ih := mg_1 h ha hb hd i
    have hy : itr T (i + 1) b ≠ a := fun z => hd (rel_sy h hb ⟨i + 1, z⟩)
    by_cases hyb : itr T (i + 1) b = b
    · show rel (sw T a b) a (T (itr T (i + 1) b))
      rw [hyb]
      exact ⟨1, sw_a T a b⟩
    · have e : sw T a b (itr T (i + 1) b) = itr T (i + 1 + 1) b := sw_n hy hyb
      rw [← e]
      exact rel_tr ih (rel_T _ _)
theorem mg_b (h : pm N T) (ha : a < N) (hb : b < N) (hd : ¬ rel T a b) {x : Nat} (hx : rel T b x) : rel (sw T a b) a x := by
  obtain ⟨i, rfl⟩ := hx
  obtain ⟨p, ⟨p1, -, p3⟩, -⟩ := per h hb
  have := mg_1 h ha hb hd (i + (p - 1))
  rw [show i + (p - 1) + 1 = i + p by omega, itr_add, p3] at this
  exact this
theorem sw_cm (T : Nat → Nat) (a b : Nat) : sw T a b = sw T b a := by
  funext x
  by_cases h1 : x = a
  · rw [h1, sw_a, sw_b]
  · by_cases h2 : x = b
    · rw [h2, sw_b, sw_a]
    · rw [sw_n h1 h2, sw_n h2 h1]
theorem mg_a (h : pm N T) (ha : a < N) (hb : b < N) (hd : ¬ rel T a b) {x : Nat} (hx : rel T a x) : rel (sw T a b) a x := by
  have h1 := mg_b h ha hb hd (rel_rf T b)
  have h2 := mg_b h hb ha (fun z => hd (rel_sy h hb z)) hx
  rw [sw_cm T b a] at h2
  exact rel_tr h1 h2
/-- behind an exchange between two cycles -/
theorem merge (h : pm N T) (ha : a < N) (hb : b < N) (hd : ¬ rel T a b) {x y : Nat} (hx : x < N) : rel (sw T a b) x y ↔ rel T x y ∨ ((rel T a x ∨ rel T b x) ∧ (rel T a y ∨ rel T b y)) := by
  have h' := sw_pm h ha hb
  have uni : ∀ z, (rel T a z ∨ rel T b z) → rel (sw T a b) a z := fun z hz => hz.elim (mg_a h ha hb hd) (mg_b h ha hb hd)
  constructor
  · intro hr
    by_cases hu : rel T a x ∨ rel T b x
    · refine Or.inr ⟨hu, ?_⟩
      obtain ⟨i, rfl⟩ := hr
      clear hx
      have key : ∀ i, rel T a (itr (sw T a b) i x) ∨ rel T b (itr (sw T a b) i x) := by
        intro i
        induction i with
        | zero => exact hu
        | succ i ih =>
          show rel T a (sw T a b (itr (sw T a b) i x)) ∨ rel T b (sw T a b (itr (sw T a b) i x))
          generalize itr (sw T a b) i x = z at ih
          by_cases h1 : z = a
          · rw [h1, sw_a]; exact Or.inr (rel_T T b)
          · by_cases h2 : z = b
            · rw [h2, sw_b]; exact Or.inl (rel_T T a)
            · rw [sw_n h1 h2]
              exact ih.elim (fun q => Or.inl (rel_tr q (rel_T T z))) (fun q => Or.inr (rel_tr q (rel_T T z)))
      exact key i
    · refine Or.inl ?_
      obtain ⟨i, rfl⟩ := hr
      refine ⟨i, ?_⟩
      have key : ∀ i, itr T i x = itr (sw T a b) i x := by
        intro i
        induction i with
        | zero => rfl
        | succ i ih =>
          show T (itr T i x) = sw T a b (itr (sw T a b) i x)
          rw [← ih]
          have n1 : itr T i x ≠ a := fun z => hu (Or.inl (rel_sy h hx ⟨i, z⟩))
          have n2 : itr T i x ≠ b := fun z => hu (Or.inr (rel_sy h hx ⟨i, z⟩))
          rw [sw_n n1 n2]
      exact key i
  · rintro (hr | ⟨hux, huy⟩)
    · by_cases hu : rel T a x ∨ rel T b x
      · have huy : rel T a y ∨ rel T b y := hu.elim (fun q => Or.inl (rel_tr q hr)) (fun q => Or.inr (rel_tr q hr))
        exact rel_tr (rel_sy h' ha (uni x hu)) (uni y huy)
      · obtain ⟨i, rfl⟩ := hr
        refine ⟨i, ?_⟩
        induction i with
        | zero => rfl
        | succ i ih =>
          show sw T a b (itr (sw T a b) i x) = T (itr T i x)
          rw [ih]
          have n1 : itr T i x ≠ a := fun z => hu (Or.inl (rel_sy h hx ⟨i, z⟩))
          have n2 : itr T i x ≠ b := fun z => hu (Or.inr (rel_sy h hx ⟨i, z⟩))
          exact sw_n n1 n2
    · exact rel_tr (rel_sy h' ha (uni x hux)) (uni y huy)
theorem split2 (h : pm N T) (ha : a < N) (hb : b < N) (hab : a ≠ b) (hr : rel T a b) : ¬ rel (sw T a b) a b := by
  obtain ⟨p, hp, hmin⟩ := pk_least (fun p => itr T p a = b) hr
  have p1 : 1 ≤ p := Nat.pos_of_ne_zero (fun z => hab (by rw [z] at hp; exact hp))
  have na : ∀ i, 1 ≤ i → i ≤ p → itr T i a ≠ a := fun i h1 h2 e => by
    rcases Nat.lt_or_ge i p with q | q
    · refine hmin (p - i) (by omega) ?_
      have : itr T (p - i + i) a = b := by rw [show p - i + i = p by omega]; exact hp
      rw [itr_add, e] at this
      exact this
    · have : i = p := by omega
      rw [this] at e
      exact hab (e.symm.trans hp)
  have key : ∀ i, ∃ j, 1 ≤ j ∧ j ≤ p ∧ itr (sw T a b) i b = itr T j a := by
    intro i
    induction i with
    | zero => exact ⟨p, p1, Nat.le_refl _, hp.symm⟩
    | succ i ih =>
      obtain ⟨j, j1, j2, e⟩ := ih
      show ∃ j, 1 ≤ j ∧ j ≤ p ∧ sw T a b (itr (sw T a b) i b) = itr T j a
      rw [e]
      rcases Nat.lt_or_ge j p with q | q
      · exact ⟨j + 1, by omega, by omega, sw_n (na j j1 j2) (hmin j q)⟩
      · refine ⟨1, Nat.le_refl _, p1, ?_⟩
        rw [show j = p by omega, hp, sw_b]
        rfl
  intro hc
  obtain ⟨i, e⟩ := rel_sy (sw_pm h ha hb) ha hc
  obtain ⟨j, j1, j2, e2⟩ := key i
  exact na j j1 j2 (e2.symm.trans e)
end MG2
/-- w is the least of its cycle -/
noncomputable def lsB (T : Nat → Nat) (w : Nat) : Bool := @decide (∀ x, x < w → ¬ rel T w x) (Classical.propDecidable _)
theorem lsB_iff {T : Nat → Nat} {w : Nat} : lsB T w = true ↔ ∀ x, x < w → ¬ rel T w x := by
  unfold lsB
  exact @decide_eq_true_iff _ (Classical.propDecidable _)
theorem lsB_eq {T T2 : Nat → Nat} {w : Nat} (h : (∀ x, x < w → ¬ rel T w x) ↔ (∀ x, x < w → ¬ rel T2 w x)) : lsB T w = lsB T2 w := by
  cases h1 : lsB T w <;> cases h2 : lsB T2 w
  · rfl
  · exact absurd (lsB_iff.mpr (h.mpr (lsB_iff.mp h2))) (by rw [h1]; decide)
  · exact absurd (lsB_iff.mpr (h.mp (lsB_iff.mp h1))) (by rw [h2]; decide)
  · rfl
theorem cyc_min {N : Nat} {T : Nat → Nat} (h : pm N T) {a : Nat} (ha : a < N) : ∃ m, m < N ∧ rel T a m ∧ ∀ x, rel T a x → m ≤ x := by
  obtain ⟨m, hm, hmin⟩ := pk_least (fun m => rel T a m) ⟨a, rel_rf T a⟩
  exact ⟨m, rel_lt h ha hm, hm, fun x hx => Nat.le_of_not_lt (fun z => hmin x z hx)⟩
theorem cnt_mg1 {N : Nat} {T : Nat → Nat} {a b : Nat} (h : pm N T) (ha : a < N) (hb : b < N) (hd : ¬ rel T a b) {ma mb : Nat} (hma : rel T a ma) (la : ∀ x, rel T a x → ma ≤ x) (hmb : rel T b mb) (lb : ∀ x, rel T b x → mb ≤ x) (hlt : ma < mb) : cs (lsB (sw T a b)) N + 1 = cs (lsB T) N := by
  have mbN := rel_lt h hb hmb
  have hmbT : lsB T mb = true := lsB_iff.mpr (fun x hx hr => absurd (lb x (rel_tr hmb hr)) (by omega))
  rw [← cs_rm hmbT N mbN]
  congr 1
  refine cs_cg N (fun w hw => ?_)
  by_cases hwm : w = mb
  · rw [if_pos hwm]
    cases hc : lsB (sw T a b) w
    · rfl
    · refine absurd ?_ (lsB_iff.mp hc ma (by omega))
      rw [hwm]
      exact (merge h ha hb hd mbN).mpr (Or.inr ⟨Or.inr hmb, Or.inl hma⟩)
  · rw [if_neg hwm]
    refine lsB_eq ⟨fun q x hx hr => q x hx ((merge h ha hb hd hw).mpr (Or.inl hr)), fun q x hx hr => ?_⟩
    rcases (merge h ha hb hd hw).mp hr with hr2 | ⟨hu, hx2⟩
    · exact q x hx hr2
    · rcases hu with hu | hu
      · have e1 : w = ma := by
          have h1 := la w hu
          rcases Nat.lt_or_ge ma w with z | z
          · exact absurd (rel_tr (rel_sy h ha hu) hma) (q ma z)
          · omega
        rcases hx2 with hx2 | hx2
        · have := la x hx2; omega
        · have := lb x hx2; omega
      · have h1 := lb w hu
        have : mb < w := by omega
        exact q mb this (rel_tr (rel_sy h hb hu) hmb)
theorem cnt_merge {N : Nat} {T : Nat → Nat} {a b : Nat} (h : pm N T) (ha : a < N) (hb : b < N) (hd : ¬ rel T a b) : cs (lsB (sw T a b)) N + 1 = cs (lsB T) N := by
  obtain ⟨ma, -, hma, la⟩ := cyc_min h ha
  obtain ⟨mb, -, hmb, lb⟩ := cyc_min h hb
  rcases Nat.lt_trichotomy ma mb with q | q | q
  · exact cnt_mg1 h ha hb hd hma la hmb lb q
  · exact absurd (rel_tr hma (by rw [q]; exact rel_sy h hb hmb)) hd
  · rw [sw_cm]
    exact cnt_mg1 h hb ha (fun z => hd (rel_sy h hb z)) hmb lb hma la q
theorem cnt_split {N : Nat} {T : Nat → Nat} {a b : Nat} (h : pm N T) (ha : a < N) (hb : b < N) (hab : a ≠ b) (hr : rel T a b) : cs (lsB (sw T a b)) N = cs (lsB T) N + 1 := by
  have := cnt_merge (sw_pm h ha hb) ha hb (split2 h ha hb hab hr)
  rw [sw_sw] at this
  exact this.symm
