/-! the words that every method of ours is given: all of the tables' that go through a call; nest mates' links apart -/
def gw : List Cond := lw_tbl.filter goodWord
def is_N : Cond → Bool
  | .fieldLinkNest .. => true
  | .methodLinkNest .. => true
  | _ => false
def nw : List Cond := lw_tbl.filter is_N
theorem gw_in {w : Cond} (h : w ∈ lw_tbl) (hg : goodWord w = true) : w ∈ gw := List.mem_filter.mpr ⟨h, hg⟩
theorem nw_in {w : Cond} (h : w ∈ lw_tbl) (hg : is_N w = true) : w ∈ nw := List.mem_filter.mpr ⟨h, hg⟩
theorem gw_good {w : Cond} (h : w ∈ gw) : (w.onTables && w.keeps) = true ∨ ∃ ty, w = .arrayClass ty := good_of_word (List.mem_filter.mp h).2
theorem nw_warm {w : Cond} (h : w ∈ nw) {s U : State} (hW : s.WarmedH U.vm) (hZ : va_Nw w s) : va_Nw w U := by
  have h2 := (List.mem_filter.mp h).2
  cases w <;> first | exact va_Nw.warmF hW hZ | exact va_Nw.warmM hW hZ | (simp [is_N] at h2)
theorem nw_tab {w : Cond} (h : w ∈ nw) : w.onTables = true := by
  have h2 := (List.mem_filter.mp h).2
  cases w <;> first | rfl | (simp [is_N] at h2)
theorem in_X0 : ∀ w ∈ wsX00, w ∈ lw_tbl := by decide +kernel
theorem in_X1 : ∀ w ∈ wsX10, w ∈ lw_tbl := by decide +kernel
theorem in_X2 : ∀ w ∈ wsX20, w ∈ lw_tbl := by decide +kernel
theorem in_X3 : ∀ w ∈ wsX30, w ∈ lw_tbl := by decide +kernel
theorem in_X4 : ∀ w ∈ wsX40, w ∈ lw_tbl := by decide +kernel
theorem in_X5 : ∀ w ∈ wsX50, w ∈ lw_tbl := by decide +kernel
theorem in_X6 : ∀ w ∈ wsX60, w ∈ lw_tbl := by decide +kernel
theorem in_X7 : ∀ w ∈ wsX70, w ∈ lw_tbl := by decide +kernel
theorem in_X8 : ∀ w ∈ wsX80, w ∈ lw_tbl := by decide +kernel
theorem lay_good (C : String) (T : u_T) (k : Nat) : goodWord (u_lay C T k) = true := by
  unfold u_lay
  split <;> rfl
theorem ws_good {C : String} {T : u_T} {N : Nat} {w : Cond} (h : w ∈ u_ws C T N) : goodWord w = true := by
  obtain ⟨k, -, rfl⟩ := List.mem_map.mp h
  exact lay_good C T k
theorem gw_cls {ci : Nat} {r : vw_C} (h : vwCl[ci]? = some r) : ∀ w ∈ u_ws r.1 r.2.1 r.2.2, w ∈ gw := by
  intro w hw
  refine gw_in ?_ (ws_good hw)
  match ci, h with
  | 0, h => cases h; exact in_X0 w hw
  | 1, h => cases h; exact in_X1 w hw
  | 2, h => cases h; exact in_X2 w hw
  | 3, h => cases h; exact in_X3 w hw
  | 4, h => cases h; exact in_X4 w hw
  | 5, h => cases h; exact in_X5 w hw
  | 6, h => cases h; exact in_X6 w hw
  | 7, h => cases h; exact in_X7 w hw
  | 8, h => cases h; exact in_X8 w hw
  | k + 9, h => simp [vwCl] at h
/-- the field types, by class -/
def cl_ty (ci : Nat) : Nat → FieldType := match ci with
  | 0 => tyX0
  | 1 => tyX1
  | 2 => tyX2
  | 3 => tyX3
  | 4 => tyX4
  | 5 => tyX5
  | 6 => tyX6
  | 7 => tyX7
  | _ => tyX8
theorem cl_tyok {ci : Nat} {r : vw_C} (h : vwCl[ci]? = some r) : ∀ k, k < r.2.2 → parseFieldDescriptor (r.2.1 k).2.2.1 = some (cl_ty ci k) := by
  match ci, h with
  | 0, h => cases h; exact tyX0_ok
  | 1, h => cases h; exact tyX1_ok
  | 2, h => cases h; exact tyX2_ok
  | 3, h => cases h; exact tyX3_ok
  | 4, h => cases h; exact tyX4_ok
  | 5, h => cases h; exact tyX5_ok
  | 6, h => cases h; exact tyX6_ok
  | 7, h => cases h; exact tyX7_ok
  | 8, h => cases h; exact tyX8_ok
  | k + 9, h => simp [vwCl] at h
theorem cl_nm {ci : Nat} {r : vw_C} (h : vwCl[ci]? = some r) : ∀ a, a < r.2.2 → ∀ b, b < r.2.2 → a ≠ b → (r.2.1 a).2.1 ≠ (r.2.1 b).2.1 := by
  match ci, h with
  | 0, h => cases h; exact nmX0
  | 1, h => cases h; exact nmX1
  | 2, h => cases h; exact nmX2
  | 3, h => cases h; exact nmX3
  | 4, h => cases h; exact nmX4
  | 5, h => cases h; exact nmX5
  | 6, h => cases h; exact nmX6
  | 7, h => cases h; exact nmX7
  | 8, h => cases h; exact nmX8
  | k + 9, h => simp [vwCl] at h
