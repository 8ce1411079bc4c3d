/-! the heap's rows -/
theorem wl_get (G : gx) (h : ah) {k : Nat} (hk : k < (h 0).1) : (wl G h)[k]? = some (g_b G + k, cx G (h (k + 2))) := by
  unfold wl
  rw [List.getElem?_map, List.getElem?_range hk]
  rfl
theorem wl_inv {G : gx} {h : ah} {k : Nat} {q : Nat × va_E} (hk : (wl G h)[k]? = some q) : k < (h 0).1 ∧ q = (g_b G + k, cx G (h (k + 2))) := by
  have hl : k < (wl G h).length := (List.getElem?_eq_some_iff.mp hk).1
  have hl2 : k < (h 0).1 := by simpa [wl] using hl
  exact ⟨hl2, Option.some.inj (hk.symm.trans (wl_get G h hl2))⟩
theorem wl_D (G : gx) (h : ah) : va_D (g_A G) (wl G h) := by
  refine ⟨fun i j p q hp hq hpq => ?_, fun k q hk => ?_⟩
  · rw [(wl_inv hp).2, (wl_inv hq).2] at hpq
    have : g_b G + i = g_b G + j := hpq
    omega
  · rw [(wl_inv hk).2]
    exact Nat.le_add_right _ _
theorem up_0 (h : ah) (k : Nat) (e : ce) : va_up h (k + 2) e 0 = h 0 := by
  unfold va_up
  rw [if_neg (by omega)]
theorem up_s (h : ah) (k : Nat) (e : ce) : va_up h k e k = e := by simp [va_up]
theorem up_n (h : ah) {k j : Nat} (e : ce) (hn : j ≠ k) : va_up h k e j = h j := by simp [va_up, hn]
theorem wl_set (G : gx) (h : ah) {k : Nat} (e : ce) (hk : k < (h 0).1) : (wl G h).set k (g_b G + k, cx G e) = wl G (va_up h (k + 2) e) := by
  apply List.ext_getElem?
  intro i
  by_cases hi : i < (h 0).1
  · rw [wl_get G (va_up h (k + 2) e) (by rw [up_0]; exact hi)]
    by_cases hik : k = i
    · subst hik
      rw [List.getElem?_set_self (by simpa [wl] using hk), up_s]
    · rw [List.getElem?_set_ne hik, wl_get G h hi, up_n h e (by omega)]
  · rw [List.getElem?_eq_none (by simp [wl]; omega), List.getElem?_eq_none (by simp [wl, up_0]; omega)]
theorem Hp.lt {G : gx} {h : ah} {H : Heap} (hP : Hp G h H) {k : Nat} {e : ce} (hc : h (k + 2) = e) (he : e.1 < 100) : k < (h 0).1 := hP.2.1 k (by rw [hc]; exact he)
theorem Hp.el {G : gx} {h : ah} {H : Heap} (hP : Hp G h H) {k : Nat} {e : ce} (hc : h (k + 2) = e) (he : e.1 < 100) : (wl G h)[k]? = some (g_b G + k, cx G e) := by
  rw [wl_get G h (hP.lt hc he), hc]
theorem Hp.at {G : gx} {h : ah} {H : Heap} (hP : Hp G h H) {k : Nat} {e : ce} (hc : h (k + 2) = e) (he : e.1 < 100) : va_at (g_D G) vwCl (g_b G + k, cx G e) H := hP.1 k _ (hP.el hc he)
theorem Hp.set {G : gx} {h : ah} {H H1 : Heap} (hP : Hp G h H) {k : Nat} {e0 e : ce} (hc : h (k + 2) = e0) (h0 : e0.1 < 100) (he : va_at (g_D G) vwCl (g_b G + k, cx G e) H1) (z : H1.size = H.size) (oq : ∀ q : Nat, q ≠ g_b G + k → H1[q]? = H[q]?) : Hp G (va_up h (k + 2) e) H1 := by
  have hk := hP.lt hc h0
  refine ⟨?_, fun j hj => ?_, by rw [up_0, z]; exact hP.2.2⟩
  · rw [← wl_set G h e hk]
    exact hP.1.set (wl_D G h) (wl_get G h hk) he oq
  · rw [up_0]
    by_cases hjk : j = k
    · rw [hjk]; exact hk
    · rw [up_n h e (by omega)] at hj
      exact hP.2.1 j hj
theorem Cx.ex {G : gx} {y : my} {p : Program} {s : State} {m : MethodId} {args : Array Value} {meth : Method} {c : Code} (C : Cx G y p s m args meth c) : p.tables.exec = Jvm.exec := C.1
theorem Cx.own {G : gx} {y : my} {p : Program} {s : State} {m : MethodId} {args : Array Value} {meth : Method} {c : Code} (C : Cx G y p s m args meth c) : s.vm.findClass y.1.cls = some m.cls := C.2.2.2.2.1
theorem Cx.ts {G : gx} {y : my} {p : Program} {s : State} {m : MethodId} {args : Array Value} {meth : Method} {c : Code} (C : Cx G y p s m args meth c) {w : Cond} (hw : w ∈ gw) : w.before args s = true := C.2.2.2.2.2.1 _ hw
theorem Cx.kt {G : gx} {y : my} {p : Program} {s : State} {m : MethodId} {args : Array Value} {meth : Method} {c : Code} (C : Cx G y p s m args meth c) : Kt G s := C.2.2.2.2.2.2.2.2.1
theorem Cx.ro {G : gx} {y : my} {p : Program} {s : State} {m : MethodId} {args : Array Value} {meth : Method} {c : Code} (C : Cx G y p s m args meth c) : Ro G s s.heap := C.2.2.2.2.2.2.2.2.2.1
theorem Cx.nb {G : gx} {y : my} {p : Program} {s : State} {m : MethodId} {args : Array Value} {meth : Method} {c : Code} (C : Cx G y p s m args meth c) : g_b G ≤ s.heap.size := C.2.2.2.2.2.2.2.2.2.2
theorem Cx.nt {G : gx} {y : my} {p : Program} {s : State} {m : MethodId} {args : Array Value} {meth : Method} {c : Code} (C : Cx G y p s m args meth c) {w : Cond} (hw : w ∈ nw) : w.before args s = true := va_Nw.use (nw_tab hw) (C.kt.2.1 w hw)
section HR
variable {G : gx} {y : my} {b : bg} {pc : Nat} {L : List (Option Value)} {S : List Value} {h : ah} {Q : Option Value → ah → Prop}
theorem V_get {k ci j index N : Nat} {fs : List Value} {v : Value} {C0 : String} {T : u_T} (hd : decode y.2.1 pc = .ok (.getfield index, 3)) (hcl : vwCl[ci]? = some (C0, T, N)) (hc : h (k + 2) = (ci, .inl fs)) (hci : ci < 100) (hj : j < N) (hw : Cond.fieldLink y.1.cls index (T j).1 (T j).2.1 (T j).2.2.1 ∈ gw) (hv : fs[j]? = some v) (kk : V G y b (pc + 3) L (v :: S) h Q) : V G y b pc L (.ref (k + 2) :: S) h Q :=
  fun p e s m args below meth c H locs ls C c1 c2 hP hS hl => va_get C.1 C.2.1 C.2.2.2.2.2.1 (gw_cls hcl) C.own C.kt.1 hP.1 k (hP.el hc hci) hcl j hj (C.ts hw) (fun _ z => z) (by rw [List.getElem?_map, hv]; rfl) hd (kk p e s m args below meth c H locs ls C c1 c2 hP hS hl)
theorem V_getN {k ci j index N : Nat} {fs : List Value} {v : Value} {C0 host : String} {T : u_T} (hd : decode y.2.1 pc = .ok (.getfield index, 3)) (hcl : vwCl[ci]? = some (C0, T, N)) (hc : h (k + 2) = (ci, .inl fs)) (hci : ci < 100) (hj : j < N) (hw : Cond.fieldLinkNest y.1.cls index (T j).1 (T j).2.1 (T j).2.2.1 host ∈ nw) (hv : fs[j]? = some v) (kk : V G y b (pc + 3) L (v :: S) h Q) : V G y b pc L (.ref (k + 2) :: S) h Q :=
  fun p e s m args below meth c H locs ls C c1 c2 hP hS hl => va_getN C.1 C.2.1 C.2.2.2.2.2.1 (gw_cls hcl) C.own C.kt.1 hP.1 k (hP.el hc hci) hcl j hj (C.nt hw) (fun _ z => z) (by rw [List.getElem?_map, hv]; rfl) hd (kk p e s m args below meth c H locs ls C c1 c2 hP hS hl)
theorem put_at {ci j N a : Nat} {fs : List Value} {v : Value} {C0 : String} {T : u_T} {cell : Cell} {H1 : Heap} {s : State} {args : Array Value} {ws : List Cond} (hts : ∀ w ∈ ws, w.before args s = true) (hin : ∀ w ∈ gw, w ∈ ws) (hK : Kt G s) (hcl : vwCl[ci]? = some (C0, T, N)) (hj : j < N) (hl : j < fs.length) (q2 : cell.cls = (g_D G).1 ci) (q3 : cell.vm = .none) (q4 : ∀ k, k < N → cell.slots[(g_D G).2 ci k]? = some (vp_V (fs.map (cv G)) k)) (e1 : H1[a]? = some (cell.setSlot ((g_D G).2 ci j) (cv G v))) : va_at (g_D G) vwCl (a, cx G (ci, .inl (fs.set j v))) H1 := by
  have hap := va_apart (own := C0) (D := g_D G) (tys := g_ty G) hts (fun w hh => hin w (gw_cls hcl w hh)) (cl_ty ci) (cl_tyok hcl) (cl_nm hcl) hK.1 hcl
  refine ⟨_, hcl, ?_⟩
  refine t_OB.to (V := updV (vp_V (fs.map (cv G))) j (cv G v)) ⟨_, e1, q2, q3, t_set q4 hap hj _⟩ (fun i _ => ?_)
  rw [vp_updV_set (by simpa using hl), List.map_set]
theorem V_put {k ci j index N : Nat} {fs : List Value} {v : Value} {C0 : String} {T : u_T} {ty : FieldType} (hd : decode y.2.1 pc = .ok (.putfield index, 3)) (hcl : vwCl[ci]? = some (C0, T, N)) (hc : h (k + 2) = (ci, .inl fs)) (hci : ci < 100) (hj : j < N) (hw : Cond.fieldLink y.1.cls index (T j).1 (T j).2.1 (T j).2.2.1 ∈ gw) (hfin : (T j).2.2.2 = false) (hty : parseFieldDescriptor (T j).2.2.1 = some ty) (hn : narrow ty (cv G v) = cv G v) (hfit : fits ty (cv G v) = true) (hl : j < fs.length) (kk : V G y b (pc + 3) L S (va_up h (k + 2) (ci, .inl (fs.set j v))) Q) : V G y b pc L (v :: .ref (k + 2) :: S) h Q :=
  fun p e s m args below meth c H locs ls C c1 c2 hP hS hlv => by
    obtain ⟨r, h1, cell, q1, q2, q3, q4⟩ := hP.at hc hci
    have hr : r = (C0, T, N) := Option.some.inj (h1.symm.trans hcl)
    subst hr
    obtain ⟨hSl, hfc, kC, hkC, hkind⟩ := C.kt.1.1 ci _ hcl
    obtain ⟨cf, kf, fi, f, hi, hsl⟩ := hSl j hj
    have hlay := C.ts (gw_cls hcl _ (u_in_lay hj))
    unfold u_lay at hlay
    rw [if_neg (by rw [hfin]; decide)] at hlay
    have hst := (u_facts hfc hkC (u_lays C.2.2.2.2.2.1 (gw_cls hcl) hj) hi).1
    have h6 := u_store hfc hkC hkind hlay hi hty hn hfit
    refine W.putK C.1 C.2.1 (f := f) ⟨C.own, C.ts hw, ⟨_, _, _, hi⟩, hst⟩ (by rw [q2]; exact h6) q1 q3 (by rw [hsl]; exact k2_hasslot (q4 j hj)) rfl rfl hd fun H' e1 e2 e3 => ?_
    rw [hsl] at e1 ⊢
    exact kk p e s m args below meth c H' _ ls C c1 c2 (hP.set hc hci (put_at C.2.2.2.2.2.1 (fun w hh => hh) C.kt hcl hj hl q2 q3 q4 e1) e2 e3) (hS.put e2 e3 (Nat.le_add_right _ _)) hlv
theorem V_putN {k ci j index N : Nat} {fs : List Value} {v : Value} {C0 host : String} {T : u_T} {ty : FieldType} (hd : decode y.2.1 pc = .ok (.putfield index, 3)) (hcl : vwCl[ci]? = some (C0, T, N)) (hc : h (k + 2) = (ci, .inl fs)) (hci : ci < 100) (hj : j < N) (hw : Cond.fieldLinkNest y.1.cls index (T j).1 (T j).2.1 (T j).2.2.1 host ∈ nw) (hfin : (T j).2.2.2 = false) (hty : parseFieldDescriptor (T j).2.2.1 = some ty) (hn : narrow ty (cv G v) = cv G v) (hfit : fits ty (cv G v) = true) (hl : j < fs.length) (kk : V G y b (pc + 3) L S (va_up h (k + 2) (ci, .inl (fs.set j v))) Q) : V G y b pc L (v :: .ref (k + 2) :: S) h Q :=
  fun p e s m args below meth c H locs ls C c1 c2 hP hS hlv => by
    obtain ⟨r, h1, cell, q1, q2, q3, q4⟩ := hP.at hc hci
    have hr : r = (C0, T, N) := Option.some.inj (h1.symm.trans hcl)
    subst hr
    obtain ⟨hSl, hfc, kC, hkC, hkind⟩ := C.kt.1.1 ci _ hcl
    obtain ⟨cf, kf, fi, f, hi, hsl⟩ := hSl j hj
    have hlay := C.ts (gw_cls hcl _ (u_in_lay hj))
    unfold u_lay at hlay
    rw [if_neg (by rw [hfin]; decide)] at hlay
    have hst := (u_facts hfc hkC (u_lays C.2.2.2.2.2.1 (gw_cls hcl) hj) hi).1
    have h6 := u_store hfc hkC hkind hlay hi hty hn hfit
    refine va_WputK C.1 C.2.1 (f := f) C.own (C.nt hw) hi hst (by rw [q2]; exact h6) q1 q3 (by rw [hsl]; exact k2_hasslot (q4 j hj)) rfl rfl hd fun H' e1 e2 e3 => ?_
    rw [hsl] at e1 ⊢
    exact kk p e s m args below meth c H' _ ls C c1 c2 (hP.set hc hci (put_at C.2.2.2.2.2.1 (fun w hh => hh) C.kt hcl hj hl q2 q3 q4 e1) e2 e3) (hS.put e2 e3 (Nat.le_add_right _ _)) hlv
theorem V_putF {k ci j index N : Nat} {fs : List Value} {v : Value} {C0 : String} {T : u_T} {ty : FieldType} (hd : decode y.2.1 pc = .ok (.putfield index, 3)) (hcl : vwCl[ci]? = some (C0, T, N)) (hc : h (k + 2) = (ci, .inl fs)) (hci : ci < 100) (hj : j < N) (hw : Cond.fieldLink y.1.cls index (T j).1 (T j).2.1 (T j).2.2.1 ∈ gw) (hfin : (T j).2.2.2 = true) (hin2 : y.1.name = "<init>") (hdecl : (T j).1 = y.1.cls) (hty : parseFieldDescriptor (T j).2.2.1 = some ty) (hn : narrow ty (cv G v) = cv G v) (hfit : fits ty (cv G v) = true) (hl : j < fs.length) (kk : V G y b (pc + 3) L S (va_up h (k + 2) (ci, .inl (fs.set j v))) Q) : V G y b pc L (v :: .ref (k + 2) :: S) h Q :=
  fun p e s m args below meth c H locs ls C c1 c2 hP hS hlv => by
    obtain ⟨r, h1, cell, q1, q2, q3, q4⟩ := hP.at hc hci
    have hr : r = (C0, T, N) := Option.some.inj (h1.symm.trans hcl)
    subst hr
    obtain ⟨hSl, hfc, kC, hkC, hkind⟩ := C.kt.1.1 ci _ hcl
    obtain ⟨cf, kf, fi, f, hi, hsl⟩ := hSl j hj
    have hlay := C.ts (gw_cls hcl _ (u_in_lay hj))
    unfold u_lay at hlay
    rw [if_pos hfin] at hlay
    have hst := (u_facts hfc hkC (u_lays C.2.2.2.2.2.1 (gw_cls hcl) hj) hi).1
    have hcf : m.cls = cf := by
      obtain ⟨_, _, c', _, _, _, -, -, hf', -, -, -, hown2, -⟩ := Cond.laysFinal_spec hlay
      have e1 : c' = cf := by have := hi.symm.trans hf'; simp at this; exact this.1.symm
      rw [hdecl] at hown2
      rw [← e1]; exact Option.some.inj (C.own.symm.trans hown2)
    have h6 := u_fits hfc hkC hkind (Or.inr hlay) hi hty hn hfit
    refine W.putFinK C.1 C.2.1 C.own (C.ts hw) hi hst hcf (C.2.2.2.2.2.2.2.1 hin2) (by rw [q2]; exact h6) q1 q3 (by rw [hsl]; exact k2_hasslot (q4 j hj)) rfl rfl hd fun H' e1 e2 e3 => ?_
    rw [hsl] at e1 ⊢
    exact kk p e s m args below meth c H' _ ls C c1 c2 (hP.set hc hci (put_at C.2.2.2.2.2.1 (fun w hh => hh) C.kt hcl hj hl q2 q3 q4 e1) e2 e3) (hS.put e2 e3 (Nat.le_add_right _ _)) hlv
theorem V_iald {k n : Nat} {f : Nat → Int32} {i : Int32} (hd : decode y.2.1 pc = .ok (.iaload, 1)) (hc : h (k + 2) = (0, .inr (n, .inl f))) (hin : vp_in i n) (kk : V G y b (pc + 1) L (.int (f i.toNatClampNeg) :: S) h Q) : V G y b pc L (.int i :: .ref (k + 2) :: S) h Q :=
  fun p e s m args below meth c H locs ls C c1 c2 hP hS hl => va_iald C.1 C.2.1 C.kt.1 hP.1 k 0 (hP.el hc (by show 0 < 100; decide)) rfl hin hd (kk p e s m args below meth c H locs ls C c1 c2 hP hS hl)
theorem V_bald {k n : Nat} {f : Nat → Int32} {i : Int32} (hd : decode y.2.1 pc = .ok (.baload, 1)) (hc : h (k + 2) = (1, .inr (n, .inl f))) (hin : vp_in i n) (kk : V G y b (pc + 1) L (.int (f i.toNatClampNeg) :: S) h Q) : V G y b pc L (.int i :: .ref (k + 2) :: S) h Q :=
  fun p e s m args below meth c H locs ls C c1 c2 hP hS hl => va_bald C.1 C.2.1 C.kt.1 hP.1 k 1 (hP.el hc (by show 1 < 100; decide)) rfl hin hd (kk p e s m args below meth c H locs ls C c1 c2 hP hS hl)
theorem V_zald {k n : Nat} {f : Nat → Int32} {i : Int32} (hd : decode y.2.1 pc = .ok (.baload, 1)) (hc : h (k + 2) = (2, .inr (n, .inl f))) (hin : vp_in i n) (kk : V G y b (pc + 1) L (.int (f i.toNatClampNeg) :: S) h Q) : V G y b pc L (.int i :: .ref (k + 2) :: S) h Q :=
  fun p e s m args below meth c H locs ls C c1 c2 hP hS hl => va_zald C.1 C.2.1 C.kt.1 hP.1 k 2 (hP.el hc (by show 2 < 100; decide)) rfl hin hd (kk p e s m args below meth c H locs ls C c1 c2 hP hS hl)
theorem V_lald {k n : Nat} {f : Nat → Int64} {i : Int32} (hd : decode y.2.1 pc = .ok (.laload, 1)) (hc : h (k + 2) = (3, .inr (n, .inr (.inl f)))) (hin : vp_in i n) (kk : V G y b (pc + 1) L (.long (f i.toNatClampNeg) :: S) h Q) : V G y b pc L (.int i :: .ref (k + 2) :: S) h Q :=
  fun p e s m args below meth c H locs ls C c1 c2 hP hS hl => va_lald C.1 C.2.1 C.kt.1 hP.1 k 3 (hP.el hc (by show 3 < 100; decide)) rfl hin hd (kk p e s m args below meth c H locs ls C c1 c2 hP hS hl)
theorem V_aald {k n r : Nat} {f : Nat → Option Nat} {i : Int32} (hd : decode y.2.1 pc = .ok (.aaload, 1)) (hc : h (k + 2) = (4, .inr (n, .inr (.inr f)))) (hin : vp_in i n) (hr : f i.toNatClampNeg = some r) (kk : V G y b (pc + 1) L (.ref r :: S) h Q) : V G y b pc L (.int i :: .ref (k + 2) :: S) h Q :=
  fun p e s m args below meth c H locs ls C c1 c2 hP hS hl => va_aldq C.1 C.2.1 C.kt.1 hP.1 k 4 (hP.el hc (by show 4 < 100; decide)) rfl hin hd (by
    rw [hr]
    exact kk p e s m args below meth c H locs ls C c1 c2 hP hS hl)
theorem V_alen {k n t : Nat} {f : (Nat → Int32) ⊕ (Nat → Int64) ⊕ (Nat → Option Nat)} (hd : decode y.2.1 pc = .ok (.arraylength, 1)) (hc : h (k + 2) = (t, .inr (n, f))) (ht : t < 5) (kk : V G y b (pc + 1) L (.int (nI n) :: S) h Q) : V G y b pc L (.ref (k + 2) :: S) h Q :=
  fun p e s m args below meth c H locs ls C c1 c2 hP hS hl => by
    have hty : ∃ ty, (g_ty G)[t]? = some (g_T G t, ty) := by
      match t, ht with
      | 0, _ => exact ⟨_, rfl⟩
      | 1, _ => exact ⟨_, rfl⟩
      | 2, _ => exact ⟨_, rfl⟩
      | 3, _ => exact ⟨_, rfl⟩
      | 4, _ => exact ⟨_, rfl⟩
    obtain ⟨ty, hty⟩ := hty
    have he := hP.el hc (by show t < 100; omega)
    obtain f | f | f := f
    · exact va_alen C.1 C.2.1 C.kt.1 hP.1 k t he hty rfl hd (kk p e s m args below meth c H locs ls C c1 c2 hP hS hl)
    · exact va_alen C.1 C.2.1 C.kt.1 hP.1 k t he hty rfl hd (kk p e s m args below meth c H locs ls C c1 c2 hP hS hl)
    · exact va_alen C.1 C.2.1 C.kt.1 hP.1 k t he hty rfl hd (kk p e s m args below meth c H locs ls C c1 c2 hP hS hl)
theorem V_iast {k n : Nat} {f : Nat → Int32} {i x : Int32} (hd : decode y.2.1 pc = .ok (.iastore, 1)) (hc : h (k + 2) = (0, .inr (n, .inl f))) (hin : vp_in i n) (kk : V G y b (pc + 1) L S (va_up h (k + 2) (0, .inr (n, .inl (upd f i.toNatClampNeg x)))) Q) : V G y b pc L (.int x :: .int i :: .ref (k + 2) :: S) h Q :=
  fun p e s m args below meth c H locs ls C c1 c2 hP hS hl => by
    refine W.iast C.1 C.2.1 (hP.at hc (by show 0 < 100; decide)) ((C.kt.1.2 0 _ rfl).1 n (fun j => .int (f j))) (fun q => by cases q) (by show ¬ (i < 0 ∨ (arrV _ _ _).slots.size ≤ _); rw [arrV_size]; exact hin) rfl rfl hd fun H1 e1 z oq => ?_
    refine kk p e s m args below meth c H1 _ ls C c1 c2 (hP.set hc (by show 0 < 100; decide) ?_ z oq) (hS.put z oq (Nat.le_add_right _ _)) hl
    show H1[g_b G + k]? = some (vp_cell _ _)
    rw [e1]
    rw [vp_cell_i, vp_cell_i, arrV_store]
    congr 2
    funext q
    by_cases hq : q = i.toNatClampNeg
    · subst hq
      simp [updV, upd]
    · simp [updV, upd, hq]
theorem V_bast {k n : Nat} {f : Nat → Int32} {i x : Int32} (hd : decode y.2.1 pc = .ok (.bastore, 1)) (hc : h (k + 2) = (1, .inr (n, .inl f))) (hin : vp_in i n) (kk : V G y b (pc + 1) L S (va_up h (k + 2) (1, .inr (n, .inl (upd f i.toNatClampNeg (vp_nar .byte x))))) Q) : V G y b pc L (.int x :: .int i :: .ref (k + 2) :: S) h Q :=
  fun p e s m args below meth c H locs ls C c1 c2 hP hS hl => by
    refine W.bast C.1 C.2.1 (hP.at hc (by show 1 < 100; decide)) ((C.kt.1.2 1 _ rfl).1 n (fun j => .int (f j))) (fun q => by cases q) (by show ¬ (i < 0 ∨ (arrV _ _ _).slots.size ≤ _); rw [arrV_size]; exact hin) rfl rfl hd fun H1 e1 z oq => ?_
    refine kk p e s m args below meth c H1 _ ls C c1 c2 (hP.set hc (by show 1 < 100; decide) ?_ z oq) (hS.put z oq (Nat.le_add_right _ _)) hl
    show H1[g_b G + k]? = some (vp_cell _ _)
    rw [e1]
    rw [vp_cell_i, vp_cell_i, arrV_store]
    congr 2
    funext q
    by_cases hq : q = i.toNatClampNeg
    · subst hq
      simp [updV, upd, vp_nar]
      try rfl
    · simp [updV, upd, hq]
theorem V_zast {k n : Nat} {f : Nat → Int32} {i x : Int32} (hd : decode y.2.1 pc = .ok (.bastore, 1)) (hc : h (k + 2) = (2, .inr (n, .inl f))) (hin : vp_in i n) (kk : V G y b (pc + 1) L S (va_up h (k + 2) (2, .inr (n, .inl (upd f i.toNatClampNeg (vp_nar .boolean x))))) Q) : V G y b pc L (.int x :: .int i :: .ref (k + 2) :: S) h Q :=
  fun p e s m args below meth c H locs ls C c1 c2 hP hS hl => by
    refine W.zast C.1 C.2.1 (hP.at hc (by show 2 < 100; decide)) ((C.kt.1.2 2 _ rfl).1 n (fun j => .int (f j))) (fun q => by cases q) (by show ¬ (i < 0 ∨ (arrV _ _ _).slots.size ≤ _); rw [arrV_size]; exact hin) rfl rfl hd fun H1 e1 z oq => ?_
    refine kk p e s m args below meth c H1 _ ls C c1 c2 (hP.set hc (by show 2 < 100; decide) ?_ z oq) (hS.put z oq (Nat.le_add_right _ _)) hl
    show H1[g_b G + k]? = some (vp_cell _ _)
    rw [e1]
    rw [vp_cell_i, vp_cell_i, arrV_store]
    congr 2
    funext q
    by_cases hq : q = i.toNatClampNeg
    · subst hq
      simp [updV, upd, vp_nar]
      try rfl
    · simp [updV, upd, hq]
theorem V_last {k n : Nat} {f : Nat → Int64} {i : Int32} {x : Int64} (hd : decode y.2.1 pc = .ok (.lastore, 1)) (hc : h (k + 2) = (3, .inr (n, .inr (.inl f)))) (hin : vp_in i n) (kk : V G y b (pc + 1) L S (va_up h (k + 2) (3, .inr (n, .inr (.inl (vp_updL f i.toNatClampNeg x))))) Q) : V G y b pc L (.long x :: .int i :: .ref (k + 2) :: S) h Q :=
  fun p e s m args below meth c H locs ls C c1 c2 hP hS hl => by
    refine W.last C.1 C.2.1 (hP.at hc (by show 3 < 100; decide)) ((C.kt.1.2 3 _ rfl).1 n (fun j => .long (f j))) (fun q => by cases q) (by show ¬ (i < 0 ∨ (arrV _ _ _).slots.size ≤ _); rw [arrV_size]; exact hin) rfl rfl hd fun H1 e1 z oq => ?_
    refine kk p e s m args below meth c H1 _ ls C c1 c2 (hP.set hc (by show 3 < 100; decide) ?_ z oq) (hS.put z oq (Nat.le_add_right _ _)) hl
    show H1[g_b G + k]? = some (vp_cell _ _)
    rw [e1]
    rw [vp_cell_l, vp_cell_l, arrV_store]
    congr 2
    funext q
    by_cases hq : q = i.toNatClampNeg
    · subst hq
      simp [updV, vp_updL]
    · simp [updV, vp_updL, hq]
/-- the script, and the table -/
theorem V_sld {i : Int32} (hd : decode y.2.1 pc = .ok (.iaload, 1)) (hin : vp_in i (g_n G)) (kk : V G y b (pc + 1) L (.int (g_x G i.toNatClampNeg) :: S) h Q) : V G y b pc L (.int i :: .ref 0 :: S) h Q :=
  fun p e s m args below meth c H locs ls C c1 c2 hP hS hl => va_sld C.1 C.2.1 C.ro.1 (Nat.lt_of_lt_of_le C.ro.2.2.2.1 C.nb) (Nat.not_le.mpr C.ro.2.2.2.1) hS hin hd (kk p e s m args below meth c H locs ls C c1 c2 hP hS hl)
theorem V_slen (hd : decode y.2.1 pc = .ok (.arraylength, 1)) (kk : V G y b (pc + 1) L (.int (nI (g_n G)) :: S) h Q) : V G y b pc L (.ref 0 :: S) h Q :=
  fun p e s m args below meth c H locs ls C c1 c2 hP hS hl => va_slen C.1 C.2.1 C.ro.1 (Nat.lt_of_lt_of_le C.ro.2.2.2.1 C.nb) (Nat.not_le.mpr C.ro.2.2.2.1) hS hd (kk p e s m args below meth c H locs ls C c1 c2 hP hS hl)
theorem V_tld {i : Int32} (hd : decode y.2.1 pc = .ok (.iaload, 1)) (hin : vp_in i 15) (kk : V G y b (pc + 1) L (.int (totF i.toNatClampNeg) :: S) h Q) : V G y b pc L (.int i :: .ref 1 :: S) h Q :=
  fun p e s m args below meth c H locs ls C c1 c2 hP hS hl => va_ti C.1 C.2.1 C.ro.2.1 hS hin rfl hd (kk p e s m args below meth c H locs ls C c1 c2 hP hS hl)
theorem V_gets {index : Nat} (hd : decode y.2.1 pc = .ok (.getstatic index, 3)) (hw : Cond.fieldLink y.1.cls index RX3 "TOTIENT" "[I" ∈ gw) (kk : V G y b (pc + 3) L (.ref 1 :: S) h Q) : V G y b pc L S h Q :=
  fun p e s m args below meth c H locs ls C c1 c2 hP hS hl => va_gets C.1 C.2.1 C.ro.2.2.1 hS C.own (C.ts hw) (fun _ z => z) hd (kk p e s m args below meth c H locs ls C c1 c2 hP hS hl)
/-! the ends -/
theorem V_iret {v : Int32} (hd : decode y.2.1 pc = .ok (.ireturn, 1)) (hr : y.2.2.2 = some .int) (kq : Q (some (.int v)) h) : V G y b pc L [.int v] h Q :=
  fun p e s m args below meth c H locs ls C c1 c2 hP hS hl => W.widen c1 c2 (W.iret (v := v) C.1 C.2.1 (C.2.2.1.trans hr) (fun t ht hW => ⟨⟨some (.int v), h, rfl, kq, by rw [ht]; exact hP⟩, hS.F ht⟩) hS.2.2 hd C.2.2.2.2.2.2.1)
theorem V_zret {v : Int32} (hd : decode y.2.1 pc = .ok (.ireturn, 1)) (hr : y.2.2.2 = some .boolean) (hv : narrow .boolean (.int v) = .int v) (kq : Q (some (.int v)) h) : V G y b pc L [.int v] h Q :=
  fun p e s m args below meth c H locs ls C c1 c2 hP hS hl => W.widen c1 c2 (W.zret (v := v) C.1 C.2.1 (C.2.2.1.trans hr) hv (fun t ht hW => ⟨⟨some (.int v), h, rfl, kq, by rw [ht]; exact hP⟩, hS.F ht⟩) hS.2.2 hd C.2.2.2.2.2.2.1)
theorem V_lret {v : Int64} (hd : decode y.2.1 pc = .ok (.lreturn, 1)) (hr : y.2.2.2 = some .long) (kq : Q (some (.long v)) h) : V G y b pc L [.long v] h Q :=
  fun p e s m args below meth c H locs ls C c1 c2 hP hS hl => W.widen c1 c2 (W.lret (v := v) C.1 C.2.1 (C.2.2.1.trans hr) (fun t ht hW => ⟨⟨some (.long v), h, rfl, kq, by rw [ht]; exact hP⟩, hS.F ht⟩) hS.2.2 hd C.2.2.2.2.2.2.1)
theorem V_vret (hd : decode y.2.1 pc = .ok (.return_, 1)) (hr : y.2.2.2 = none) (kq : Q none h) : V G y b pc L [] h Q :=
  fun p e s m args below meth c H locs ls C c1 c2 hP hS hl => W.widen c1 c2 (W.vret C.1 C.2.1 (C.2.2.1.trans hr) (fun t ht hW => ⟨⟨none, h, rfl, kq, by rw [ht]; exact hP⟩, hS.F ht⟩) hS.2.2 hd C.2.2.2.2.2.2.1)
theorem V_aret {v : Nat} (hd : decode y.2.1 pc = .ok (.areturn, 1)) (hr : y.2.2.2 = some (.array .int)) (kq : Q (some (.ref v)) h) : V G y b pc L [.ref v] h Q :=
  fun p e s m args below meth c H locs ls C c1 c2 hP hS hl => W.widen c1 c2 (W.aret (v := .ref (ad G v)) C.1 C.2.1 (C.2.2.1.trans hr) (Or.inr ⟨_, rfl⟩) (Or.inr ⟨_, rfl⟩) (fun t ht hW => ⟨⟨some (.ref v), h, rfl, kq, by rw [ht]; exact hP⟩, hS.F ht⟩) hS.2.2 hd C.2.2.2.2.2.2.1)
end HR
