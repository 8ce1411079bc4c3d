/-! OUR OWN JUDGEMENT over the kit's: cells have numbers (2, 3 .. in the order in which they are made; 0 is the script, 1 the table TOTIENT), a heap is a function from numbers to cells (of 0: how many there are) -/
abbrev ce : Type := Nat × (List Value ⊕ (Nat × ((Nat → Int32) ⊕ (Nat → Int64) ⊕ (Nat → Option Nat))))
abbrev ah : Type := Nat → ce
abbrev gx : Type := Launch × (Nat × Nat × Nat) × va_G × (Nat → ClassId) × Nat × (Nat → Int32)
def g_l (G : gx) : Launch := G.1
def g_s (G : gx) : Nat := G.2.1.1
def g_t (G : gx) : Nat := G.2.1.2.1
def g_b (G : gx) : Nat := G.2.1.2.2
def g_D (G : gx) : va_G := G.2.2.1
def g_T (G : gx) : Nat → ClassId := G.2.2.2.1
def g_n (G : gx) : Nat := G.2.2.2.2.1
def g_x (G : gx) : Nat → Int32 := G.2.2.2.2.2
def g_A (G : gx) : Nat → Prop := fun q => g_b G ≤ q
def ad (G : gx) (k : Nat) : Nat := match k with
  | 0 => g_s G
  | 1 => g_t G
  | k + 2 => g_b G + k
def cv (G : gx) (v : Value) : Value := match v with
  | .ref k => .ref (ad G k)
  | v => v
def cx (G : gx) (e : ce) : va_E := match e with
  | (ci, .inl fs) => .inr (ci, fs.map (cv G))
  | (t, .inr (n, .inl f)) => .inl (g_T G t, n, .inl f)
  | (t, .inr (n, .inr (.inl f))) => .inl (g_T G t, n, .inr (.inl f))
  | (t, .inr (n, .inr (.inr f))) => .inl (g_T G t, n, .inr (.inr (.inr (.inr (fun j => (f j).map (ad G))))))
def wl (G : gx) (h : ah) : va_W := (List.range (h 0).1).map (fun k => (g_b G + k, cx G (h (k + 2))))
def Hp (G : gx) (h : ah) (H : Heap) : Prop := va_P (g_D G) vwCl (wl G h) H ∧ (∀ k, (h (k + 2)).1 < 100 → k < (h 0).1) ∧ H.size = g_b G + (h 0).1
def g_ty (G : gx) : List (ClassId × FieldType) := [(g_T G 0, .int), (g_T G 1, .byte), (g_T G 2, .boolean), (g_T G 3, .long), (g_T G 4, .object "WordWheel$Tape")]
def Kt (G : gx) (U : State) : Prop := va_K (g_D G) vwCl (g_ty G) U ∧ (∀ w ∈ nw, va_Nw w U) ∧ va_AO "WordWheel$Tape" U
def totL : List Int32 := [0, 1, 1, 2, 2, 4, 2, 6, 4, 6, 4, 10, 4, 12, 6]
def totF (j : Nat) : Int32 := totL.getD j 0
def Ro (G : gx) (U : State) (H : Heap) : Prop := va_X (g_s G) (g_n G) (g_x G) U H ∧ va_T .int (g_t G) 15 (fun j => .int (totF j)) (g_A G) U H ∧ va_Z RX3 "TOTIENT" "[I" (.ref (g_t G)) (g_A G) U H ∧ g_s G < g_b G ∧ g_t G < g_b G
def PU (G : gx) (h : ah) (U : State) : Prop := Hp G h U.heap ∧ Kt G U ∧ Ro G U U.heap
abbrev my : Type := MethodName × ByteArray × Nat × Option FieldType
def w_s (y : my) : List Cond := .code y.1 y.2.1 y.2.2.1 y.2.2.2 :: gw
def r_lo (d : Nat) : Nat := if d = 9 then 328 else 33 * d
def r_m (d mc ms : Nat) : Room := { frames := d, cells := mc, slots := ms, locals := r_lo d }
def Qm (G : gx) (Q : Option Value → ah → Prop) : Array Value → State → Outcome → State → Prop := fun _ st o t => (∃ (r : Option Value) (h : ah), o = .returned (r.map (cv G)) ∧ Q r h ∧ Hp G h t.heap) ∧ va_F (g_A G) st t
/-- a method's contract: from the heap h with the arguments a it comes to Q -/
def Ct (G : gx) (y : my) (d mc ms : Nat) (a : List Value) (h : ah) (Q : Option Value → ah → Prop) : Prop :=
  Met (g_l G) y.1 (w_s y) (r_m d mc ms) (va_Pc (a.map (cv G)) (PU G h)) (Qm G Q) mc ms (g_A G)
def Cx (G : gx) (y : my) (p : Program) (s : State) (m : MethodId) (args : Array Value) (meth : Method) (c : Code) : Prop :=
  p.tables.exec = Jvm.exec ∧ c.code = y.2.1 ∧ meth.sig.returnType = y.2.2.2 ∧ c.maxLocals = y.2.2.1 ∧ s.vm.findClass y.1.cls = some m.cls ∧ (∀ w ∈ gw, w.before args s = true) ∧ meth.locks = false ∧ (y.1.name = "<init>" → meth.name = "<init>") ∧ Kt G s ∧ Ro G s s.heap ∧ g_b G ≤ s.heap.size
/-- the locals, by their places -/
def lq (G : gx) : Nat → List (Option Value) → List (Nat × Value)
  | _, [] => []
  | i, none :: r => lq G (i + 1) r
  | i, some v :: r => (i, cv G v) :: lq G (i + 1) r
def ki (o : Option Value) : Option Value := match o with
  | some (.long _) => none
  | some (.double _) => none
  | o => o
def st1 : Nat → Value → List (Option Value) → List (Option Value)
  | 0, v, L => some v :: L.tail
  | i + 1, v, [] => none :: st1 i v []
  | 1, v, o :: r => ki o :: st1 0 v r
  | i + 2, v, o :: r => o :: st1 (i + 1) v r
def st2 : Nat → Value → List (Option Value) → List (Option Value)
  | 0, v, L => some v :: none :: L.tail.tail
  | i + 1, v, [] => none :: st2 i v []
  | 1, v, o :: r => ki o :: st2 0 v r
  | i + 2, v, o :: r => o :: st2 (i + 1) v r
abbrev bg : Type := Nat × Nat × Nat × Nat × Nat
/-- from place pc of the method y with locals L, stack S, heap h: it comes to an end with Q. b: depth, cells and slots in all, cells and slots made so far -/
def V (G : gx) (y : my) (b : bg) (pc : Nat) (L : List (Option Value)) (S : List Value) (h : ah) (Q : Option Value → ah → Prop) : Prop :=
  ∀ (p : Program) (e : Env) (s : State) (m : MethodId) (args : Array Value) (below : List Frame) (meth : Method) (c : Code) (H : Heap) (locs : List Loc) (ls : Array Slot),
    Cx G y p s m args meth c → b.2.2.2.1 ≤ b.2.1 → b.2.2.2.2 ≤ b.2.2.1 → Hp G h H → va_S (g_A G) s.heap H locs → lv_has ls y.2.2.1 (lq G 0 L) →
    W p (g_l G) e (r_m b.1 b.2.1 b.2.2.1) s m args below meth c H locs b.2.2.2.1 b.2.2.2.2 (MQ below (Qm G Q) args s b.2.1 b.2.2.1 (g_A G)) (F0 m pc ls (S.map (cv G)))
theorem cv_cat (G : gx) (v : Value) : (cv G v).category = v.category := by cases v <;> rfl
theorem lq_get (G : gx) : ∀ (L : List (Option Value)) (j i : Nat) (v : Value), L[i]? = some (some v) → (j + i, cv G v) ∈ lq G j L
  | [], _, _, _, h => by simp at h
  | none :: r, j, 0, v, h => by simp at h
  | none :: r, j, i + 1, v, h => by
    have := lq_get G r (j + 1) i v (by simpa using h)
    rw [show j + (i + 1) = j + 1 + i by omega]
    exact this
  | some w :: r, j, 0, v, h => by
    have : w = v := by simpa using h
    subst this
    exact List.mem_cons_self
  | some w :: r, j, i + 1, v, h => by
    have := lq_get G r (j + 1) i v (by simpa using h)
    rw [show j + (i + 1) = j + 1 + i by omega]
    exact List.mem_cons_of_mem _ this
theorem lq_ge (G : gx) : ∀ (L : List (Option Value)) (j : Nat) (q : Nat × Value), q ∈ lq G j L → j ≤ q.1
  | [], _, _, h => by simp [lq] at h
  | none :: r, j, q, h => by
    have := lq_ge G r (j + 1) q (by simpa [lq] using h)
    omega
  | some w :: r, j, q, h => by
    rcases List.mem_cons.mp (show q ∈ (j, cv G w) :: lq G (j + 1) r from h) with rfl | h
    · exact Nat.le_refl _
    · have := lq_ge G r (j + 1) q h
      omega
theorem lq_tail (G : gx) {L : List (Option Value)} {j : Nat} {q : Nat × Value} (h : q ∈ lq G (j + 1) L.tail) : q ∈ lq G j L := by
  match L with
  | [] => simp [lq] at h
  | none :: r => exact h
  | some w :: r => exact List.mem_cons_of_mem _ h
theorem ki_cat {o : Option Value} {v : Value} (h : ki o = some v) : o = some v ∧ v.category = 1 := by
  match o with
  | none => simp [ki] at h
  | some w => cases w <;> simp [ki] at h <;> subst h <;> exact ⟨rfl, rfl⟩
theorem lq_st1 (G : gx) (v : Value) : ∀ (i : Nat) (L : List (Option Value)) (j : Nat) (q : Nat × Value), q ∈ lq G j (st1 i v L) → q = (j + i, cv G v) ∨ (q ∈ lq G j L ∧ q.1 ≠ j + i ∧ ¬ (q.1 + 1 = j + i ∧ q.2.category = 2))
  | 0, L, j, q, h => by
    rcases List.mem_cons.mp (show q ∈ (j, cv G v) :: lq G (j + 1) L.tail from h) with rfl | h
    · exact Or.inl rfl
    · have := lq_ge G _ _ _ h
      exact Or.inr ⟨lq_tail G h, by omega, by omega⟩
  | i + 1, [], j, q, h => by
    have h2 : q ∈ lq G (j + 1) (st1 i v []) := h
    rcases lq_st1 G v i [] (j + 1) q h2 with rfl | ⟨h3, -⟩
    · exact Or.inl (by rw [show j + 1 + i = j + (i + 1) by omega])
    · simp [lq] at h3
  | 1, o :: r, j, q, h => by
    have h2 : q ∈ lq G j (ki o :: some v :: r.tail) := h
    cases hk : ki o with
    | none =>
      rw [hk] at h2
      rcases List.mem_cons.mp (show q ∈ (j + 1, cv G v) :: lq G (j + 1 + 1) r.tail from h2) with rfl | h3
      · exact Or.inl rfl
      · have h4 := lq_ge G _ _ _ h3
        refine Or.inr ⟨lq_tail G (L := o :: r) (lq_tail G (L := r) h3), by omega, by omega⟩
    | some w =>
      rw [hk] at h2
      obtain ⟨ho, hw⟩ := ki_cat hk
      subst ho
      rcases List.mem_cons.mp (show q ∈ (j, cv G w) :: (j + 1, cv G v) :: lq G (j + 1 + 1) r.tail from h2) with rfl | h3
      · exact Or.inr ⟨List.mem_cons_self, by simp, fun z => by have z2 := z.2; rw [cv_cat, hw] at z2; omega⟩
      · rcases List.mem_cons.mp h3 with rfl | h3
        · exact Or.inl rfl
        · have h4 := lq_ge G _ _ _ h3
          refine Or.inr ⟨lq_tail G (L := some w :: r) (lq_tail G (L := r) h3), by omega, by omega⟩
  | i + 2, o :: r, j, q, h => by
    have h2 : q ∈ lq G j (o :: st1 (i + 1) v r) := h
    have key : q ∈ lq G (j + 1) (st1 (i + 1) v r) → q = (j + (i + 2), cv G v) ∨ (q ∈ lq G j (o :: r) ∧ q.1 ≠ j + (i + 2) ∧ ¬ (q.1 + 1 = j + (i + 2) ∧ q.2.category = 2)) := by
      intro h3
      rcases lq_st1 G v (i + 1) r (j + 1) q h3 with rfl | ⟨a, b, c⟩
      · exact Or.inl (by rw [show j + 1 + (i + 1) = j + (i + 2) by omega])
      · exact Or.inr ⟨lq_tail G (L := o :: r) a, by omega, by rw [show j + (i + 2) = j + 1 + (i + 1) by omega]; exact c⟩
    cases o with
    | none => exact key h2
    | some w =>
      rcases List.mem_cons.mp (show q ∈ (j, cv G w) :: lq G (j + 1) (st1 (i + 1) v r) from h2) with rfl | h3
      · exact Or.inr ⟨List.mem_cons_self, by simp, by simp⟩
      · exact key h3
theorem lq_st2 (G : gx) (v : Value) : ∀ (i : Nat) (L : List (Option Value)) (j : Nat) (q : Nat × Value), q ∈ lq G j (st2 i v L) → q = (j + i, cv G v) ∨ (q ∈ lq G j L ∧ q.1 ≠ j + i ∧ q.1 ≠ j + i + 1 ∧ ¬ (q.1 + 1 = j + i ∧ q.2.category = 2))
  | 0, L, j, q, h => by
    rcases List.mem_cons.mp (show q ∈ (j, cv G v) :: lq G (j + 1 + 1) L.tail.tail from h) with rfl | h
    · exact Or.inl rfl
    · have := lq_ge G _ _ _ h
      exact Or.inr ⟨lq_tail G (lq_tail G h), by omega, by omega, by omega⟩
  | i + 1, [], j, q, h => by
    have h2 : q ∈ lq G (j + 1) (st2 i v []) := h
    rcases lq_st2 G v i [] (j + 1) q h2 with rfl | ⟨h3, -⟩
    · exact Or.inl (by rw [show j + 1 + i = j + (i + 1) by omega])
    · simp [lq] at h3
  | 1, o :: r, j, q, h => by
    have h2 : q ∈ lq G j (ki o :: some v :: none :: r.tail.tail) := h
    cases hk : ki o with
    | none =>
      rw [hk] at h2
      rcases List.mem_cons.mp (show q ∈ (j + 1, cv G v) :: lq G (j + 1 + 1 + 1) r.tail.tail from h2) with rfl | h3
      · exact Or.inl rfl
      · have h4 := lq_ge G _ _ _ h3
        refine Or.inr ⟨lq_tail G (L := o :: r) (lq_tail G (L := r) (lq_tail G (L := r.tail) h3)), by omega, by omega, by omega⟩
    | some w =>
      rw [hk] at h2
      obtain ⟨ho, hw⟩ := ki_cat hk
      subst ho
      rcases List.mem_cons.mp (show q ∈ (j, cv G w) :: (j + 1, cv G v) :: lq G (j + 1 + 1 + 1) r.tail.tail from h2) with rfl | h3
      · exact Or.inr ⟨List.mem_cons_self, by simp, by show j ≠ j + 1 + 1; omega, fun z => by have z2 := z.2; rw [cv_cat, hw] at z2; omega⟩
      · rcases List.mem_cons.mp h3 with rfl | h3
        · exact Or.inl rfl
        · have h4 := lq_ge G _ _ _ h3
          refine Or.inr ⟨lq_tail G (L := some w :: r) (lq_tail G (L := r) (lq_tail G (L := r.tail) h3)), by omega, by omega, by omega⟩
  | i + 2, o :: r, j, q, h => by
    have h2 : q ∈ lq G j (o :: st2 (i + 1) v r) := h
    have key : q ∈ lq G (j + 1) (st2 (i + 1) v r) → q = (j + (i + 2), cv G v) ∨ (q ∈ lq G j (o :: r) ∧ q.1 ≠ j + (i + 2) ∧ q.1 ≠ j + (i + 2) + 1 ∧ ¬ (q.1 + 1 = j + (i + 2) ∧ q.2.category = 2)) := by
      intro h3
      rcases lq_st2 G v (i + 1) r (j + 1) q h3 with rfl | ⟨a, b, b2, c⟩
      · exact Or.inl (by rw [show j + 1 + (i + 1) = j + (i + 2) by omega])
      · exact Or.inr ⟨lq_tail G (L := o :: r) a, by omega, by omega, by rw [show j + (i + 2) = j + 1 + (i + 1) by omega]; exact c⟩
    cases o with
    | none => exact key h2
    | some w =>
      rcases List.mem_cons.mp (show q ∈ (j, cv G w) :: lq G (j + 1) (st2 (i + 1) v r) from h2) with rfl | h3
      · exact Or.inr ⟨List.mem_cons_self, by simp, by show j ≠ j + (i + 2) + 1; omega, by simp⟩
      · exact key h3
theorem lh_st1 {G : gx} {ls : Array Slot} {nL i : Nat} {v : Value} {L : List (Option Value)} (h : lv_has ls nL ((i, cv G v) :: (lq G 0 L).filter (fun q => !(q.1 == i) && !(q.1 + 1 == i && q.2.category == 2)))) : lv_has ls nL (lq G 0 (st1 i v L)) := by
  refine ⟨h.1, h.2.1, fun q hq => h.2.2 q ?_⟩
  rcases lq_st1 G v i L 0 q hq with rfl | ⟨a, b, c⟩
  · rw [Nat.zero_add]; exact List.mem_cons_self
  · rw [Nat.zero_add] at b c
    refine List.mem_cons_of_mem _ (List.mem_filter.mpr ⟨a, ?_⟩)
    simp only [Bool.and_eq_true, Bool.not_eq_true', beq_eq_false_iff_ne, Bool.and_eq_false_iff, ne_eq]
    refine ⟨b, ?_⟩
    by_cases z : q.1 + 1 = i
    · exact Or.inr (fun z2 => c ⟨z, z2⟩)
    · exact Or.inl z
theorem lh_st2 {G : gx} {ls : Array Slot} {nL i : Nat} {v : Value} {L : List (Option Value)} (h : lv_has ls nL ((i, cv G v) :: (lq G 0 L).filter (fun q => !(q.1 == i) && (!(q.1 == i + 1) && !(q.1 + 1 == i && q.2.category == 2))))) : lv_has ls nL (lq G 0 (st2 i v L)) := by
  refine ⟨h.1, h.2.1, fun q hq => h.2.2 q ?_⟩
  rcases lq_st2 G v i L 0 q hq with rfl | ⟨a, b, b2, c⟩
  · rw [Nat.zero_add]; exact List.mem_cons_self
  · rw [Nat.zero_add] at b b2 c
    refine List.mem_cons_of_mem _ (List.mem_filter.mpr ⟨a, ?_⟩)
    simp only [Bool.and_eq_true, Bool.not_eq_true', beq_eq_false_iff_ne, Bool.and_eq_false_iff, ne_eq]
    refine ⟨b, b2, ?_⟩
    by_cases z : q.1 + 1 = i
    · exact Or.inr (fun z2 => c ⟨z, z2⟩)
    · exact Or.inl z
theorem lh_get {G : gx} {ls : Array Slot} {nL i : Nat} {v : Value} {L : List (Option Value)} (h : lv_has ls nL (lq G 0 L)) (hg : L[i]? = some (some v)) : ls[i]? = some (.val (cv G v)) := by
  have := h.2.2 _ (lq_get G L 0 i v hg)
  rw [Nat.zero_add] at this
  exact this
