/-! System.arraycopy over int rows -/
theorem V_acpy {G : gx} {y : my} {d mc ms c0 z0 pc : Nat} {L : List (Option Value)} {S : List Value} {h : ah} {Q : Option Value → ah → Prop} {k0 k1 n0 n1 index : Nat} {f g : Nat → Int32} {sp dp n : Int32} (hd : decode y.2.1 pc = .ok (.invokestatic index, 3)) (hw : Cond.methodLink y.1.cls index arraycopyName ∈ gw) (hw2 : Cond.native arraycopyName ∈ gw) (hw3 : Cond.static arraycopyName ∈ gw) (hw4 : Cond.initialized "java/lang/System" ∈ gw) (hc0 : h (k0 + 2) = (0, .inr (n0, .inl f))) (hc1 : h (k1 + 2) = (0, .inr (n1, .inl g)))
    (h1 : ¬ sp < 0) (h2 : ¬ dp < 0) (h3 : ¬ n < 0) (h4 : sp.toNatClampNeg + n.toNatClampNeg ≤ n0) (h5 : dp.toNatClampNeg + n.toNatClampNeg ≤ n1) (hdd : 1 ≤ d ∧ d ≤ 9) (hS0 : S = [])
    (kk : V G y (d, mc, ms, c0, z0) (pc + 3) L S (va_up h (k1 + 2) (0, .inr (n1, .inl (va_cpy f g sp.toNatClampNeg dp.toNatClampNeg n.toNatClampNeg)))) Q) : V G y (d, mc, ms, c0, z0) pc L (.int n :: .int dp :: .ref (k1 + 2) :: .int sp :: .ref (k0 + 2) :: S) h Q :=
  fun p e s m args below meth c H locs ls C c1 c2 hP hS hl => by
    subst hS0
    have nn : ∀ z : Int32, ¬ z < 0 → z.toInt = (z.toNatClampNeg : Int) := by
      intro z hz
      have hz0 : (0 : Int) ≤ z.toInt := by
        have := Int32.not_lt.mp hz
        simpa using Int32.le_iff_toInt_le.mp this
      show z.toInt = ((z.toInt.toNat : Nat) : Int)
      omega
    have hh0 : H[g_b G + k0]? = some (vp_cell (g_T G 0) (n0, .inl f)) := hP.at hc0 (by show 0 < 100; decide)
    have hh1 : H[g_b G + k1]? = some (vp_cell (g_T G 0) (n1, .inl g)) := hP.at hc1 (by show 0 < 100; decide)
    obtain ⟨-, kk0, hk0, cm0, hkk0⟩ := (C.kt.1.2 0 _ rfl).1 n0 (fun j => .int (f j))
    intro T hT X
    obtain ⟨vm', X', step⟩ := X.arraycopy C.1 C.own (C.ts hw) (C.ts hw2) (C.ts hw3) (C.ts hw4) (src := g_b G + k0) (dst := g_b G + k1) (cs := vp_cell (g_T G 0) (n0, .inl f)) (cd := vp_cell (g_T G 0) (n1, .inl g)) (srcPos := sp) (destPos := dp) (n := n) (by rw [hT]; exact hh0) (by rw [hT]; exact hh1)
      (fun _ h => by cases h) (fun _ h => by cases h) (fun h => by cases h) (fun h => by cases h) hk0 hk0 hkk0 hkk0 (by simp [show refKind .int = false from rfl]) h1 h2 h3
      (by rw [nn sp h1, nn n h3]; show ¬ _ > ((arrV (g_T G 0) n0 (fun j => .int (f j))).slots.size : Int); rw [arrV_size]; omega)
      (by rw [nn dp h2, nn n h3]; show ¬ _ > ((arrV (g_T G 0) n1 (fun j => .int (g j))).slots.size : Int); rw [arrV_size]; omega)
      (fun vm₁ _ i hi => by
        have e : (vp_cell (g_T G 0) (n0, .inl f)).slots.getD (sp.toNatClampNeg + i) .null = .int (f (sp.toNatClampNeg + i)) := by
          show (arrV (g_T G 0) n0 (fun j => .int (f j))).slots.getD _ _ = _
          rw [Array.getD_eq_getD_getElem?, arrV_read _ _ (by omega)]
          rfl
        refine ⟨?_, ?_⟩
        · rw [e]
          rfl
        · rw [e]
          exact trivial)
      (g := F0 m pc ls (.int n :: .int dp :: .ref (g_b G + k1) :: .int sp :: .ref (g_b G + k0) :: [])) rfl (by rw [C.2.2.2.1]; exact hl.1) (rest := []) rfl (by rw [C.2.1]; exact hd) hdd.1 (by
        show 2 * 0 + 0 + (nativeFrameWords "java/lang/System" "arraycopy" 5 + 11) ≤ r_lo d
        have : nativeFrameWords "java/lang/System" "arraycopy" 5 + 11 ≤ 33 := by decide
        unfold r_lo
        split <;> omega)
    have e1 : copied (vp_cell (g_T G 0) (n0, .inl f)) (vp_cell (g_T G 0) (n1, .inl g)) sp dp n = vp_cell (g_T G 0) (n1, .inl (va_cpy f g sp.toNatClampNeg dp.toNatClampNeg n.toNatClampNeg)) := va_copied (fun z => .int z) (g_T G 0) (g_T G 0) f g h4
    rw [e1] at X' step
    have hlb : g_b G + k1 < H.size := (Array.getElem?_eq_some_iff.mp hh1).1
    have hheap : ((T.setVm vm').setCell (g_b G + k1) (vp_cell (g_T G 0) (n1, .inl (va_cpy f g sp.toNatClampNeg dp.toNatClampNeg n.toNatClampNeg)))).heap = H.setIfInBounds (g_b G + k1) (vp_cell (g_T G 0) (n1, .inl (va_cpy f g sp.toNatClampNeg dp.toNatClampNeg n.toNatClampNeg))) := by rw [← hT]; rfl
    have oq : ∀ q : Nat, q ≠ g_b G + k1 → (H.setIfInBounds (g_b G + k1) (vp_cell (g_T G 0) (n1, .inl (va_cpy f g sp.toNatClampNeg dp.toNatClampNeg n.toNatClampNeg))))[q]? = H[q]? := fun q hq => by simp [Array.getElem?_setIfInBounds, Ne.symm hq]
    obtain ⟨t, a1, b1⟩ := kk p e s m args below meth c _ _ ls C c1 c2 (hP.set hc1 (by show 0 < 100; decide) (show (H.setIfInBounds (g_b G + k1) _)[g_b G + k1]? = some _ by simp [Array.getElem?_setIfInBounds, hlb]) (by simp) oq) ⟨by simp; exact hS.1, fun q g1 g2 => by
        rw [oq q (fun e => g2 (by rw [e]; exact Nat.le_add_right _ _))]
        exact hS.2.1 q g1 g2, fun q hq => by
        rcases List.mem_append.mp hq with h | h
        · exact hS.2.2 q h
        · obtain ⟨z, -, hz⟩ := List.mem_map.mp h
          rw [← hz]
          exact Nat.le_add_right _ _⟩ hl _ hheap X'
    exact ⟨t, step t a1, b1⟩
