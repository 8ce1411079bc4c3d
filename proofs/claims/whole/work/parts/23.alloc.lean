/-! cells are made: the rows -/
theorem nh_0 (h : ah) (N : Nat) (e : ce) : va_up (va_up h (N + 2) e) 0 (N + 1, .inl []) 0 = (N + 1, .inl []) := by simp [va_up]
theorem nh_k (h : ah) (N k : Nat) (e : ce) : va_up (va_up h (N + 2) e) 0 (N + 1, .inl []) (k + 2) = if k = N then e else h (k + 2) := by
  rw [up_n _ _ (by omega)]
  by_cases hk : k = N
  · subst hk
    rw [up_s, if_pos rfl]
  · rw [up_n _ _ (by omega), if_neg hk]
theorem wl_push (G : gx) (h : ah) {N : Nat} (e : ce) (h0 : (h 0).1 = N) : wl G (va_up (va_up h (N + 2) e) 0 (N + 1, .inl [])) = wl G h ++ [(g_b G + N, cx G e)] := by
  unfold wl
  rw [nh_0, h0]
  show (List.range (N + 1)).map _ = _
  rw [List.range_succ, List.map_append]
  congr 1
  · apply List.map_congr_left
    intro k hk
    have hk2 : k < N := List.mem_range.mp hk
    rw [nh_k, if_neg (by omega)]
  · show [(g_b G + N, cx G _)] = _
    rw [nh_k, if_pos rfl]
theorem Hp.push {G : gx} {h : ah} {H H1 : Heap} (hP : Hp G h H) {N : Nat} {e : ce} (h0 : (h 0).1 = N) (he : va_at (g_D G) vwCl (g_b G + N, cx G e) H1) (z : H1.size = H.size + 1) (oq : ∀ q : Nat, q < H.size → H1[q]? = H[q]?) : Hp G (va_up (va_up h (N + 2) e) 0 (N + 1, .inl [])) H1 := by
  refine ⟨?_, fun j hj => ?_, by rw [nh_0, z, hP.2.2, h0]; exact Nat.add_assoc _ _ _⟩
  · rw [wl_push G h e h0]
    refine va_P.app (hP.1.kept (fun k q hk => oq q.1 ((hP.1 k q hk).lt))) (fun k q hk => ?_)
    have hz : k < 1 := (List.getElem?_eq_some_iff.mp hk).1
    rw [show k = 0 by omega] at hk
    cases hk
    exact he
  · rw [nh_0]
    show j < N + 1
    rw [nh_k] at hj
    by_cases hjN : j = N
    · omega
    · rw [if_neg hjN] at hj
      have := hP.2.1 j hj
      omega
theorem S_push {A : Nat → Prop} {H0 H H1 : Heap} {locs : List Loc} (hS : va_S A H0 H locs) (z : H1.size = H.size + 1) (oq : ∀ q : Nat, q < H.size → H1[q]? = H[q]?) : va_S A H0 H1 locs := ⟨Nat.le_trans hS.1 (by omega), fun x h1 h2 => (oq x (Nat.lt_of_lt_of_le h1 hS.1)).trans (hS.2.1 x h1 h2), hS.2.2⟩
theorem cv_dv (G : gx) (ty : FieldType) : cv G (defaultValue ty) = defaultValue ty := by cases ty <;> rfl
section AR
variable {G : gx} {y : my} {d mc ms c0 z0 pc : Nat} {L : List (Option Value)} {S : List Value} {h : ah} {Q : Option Value → ah → Prop}
theorem V_new {ci index N N0 : Nat} {fs : List Value} {C0 : String} {T : u_T} (hd : decode y.2.1 pc = .ok (.new index, 3)) (hcl : vwCl[ci]? = some (C0, T, N0)) (hw : Cond.classLink y.1.cls index C0 ∈ gw) (hw2 : Cond.instantiable C0 N0 ∈ gw) (hw3 : Cond.initialized C0 ∈ gw) (hfs : (List.range N0).map (fun j => defaultValue (cl_ty ci j)) = fs) (h0 : (h 0).1 = N) (hr : c0 + 1 ≤ mc ∧ z0 + N0 ≤ ms)
    (kk : V G y (d, mc, ms, c0 + 1, z0 + N0) (pc + 3) L (.ref (N + 2) :: S) (va_up (va_up h (N + 2) (ci, .inl fs)) 0 (N + 1, .inl [])) Q) : V G y (d, mc, ms, c0, z0) pc L S h Q :=
  fun p e s m args below meth c H locs ls C c1 c2 hP hS hl => by
    have hKn := C.kt.1.1 ci _ hcl
    have hH : H.size = g_b G + N := by rw [hP.2.2, h0]
    refine W.newcK C.1 C.2.1 C.own (C.ts hw) (C.ts hw2) (C.ts hw3) rfl hd hr.1 hr.2 hKn.2.1 hH fun H1 kC hkC e1 z1 o1 => ?_
    refine kk p e s m args below meth c H1 locs ls C hr.1 hr.2 (hP.push h0 ⟨_, hcl, ?_⟩ (by rw [z1, hH]) (fun q hq => o1 q (by rw [← hH]; exact hq))) (S_push hS (by rw [z1, hH]) (fun q hq => o1 q (by rw [← hH]; exact hq))) hl
    refine (u_born (cl_ty ci) C.2.2.2.2.2.1 (gw_cls hcl) hKn hkC e1 (cl_tyok hcl)).to (fun j hj => ?_)
    show defaultValue (cl_ty ci j) = vp_V (fs.map (cv G)) j
    rw [← hfs]
    have hj2 : j < N0 := hj
    simp [vp_V, List.getD_eq_getElem?_getD, hj2, cv_dv]
theorem arr_cls {G : gx} {s : State} (hK : Kt G s) {t : Nat} {ty : FieldType} {cA : ClassId} (ht : (g_ty G)[t]? = some (g_T G t, ty)) (hp : ∀ C, ty ≠ .object C) (hA : s.vm.findClass ("[" ++ ty.toString) = some cA) : cA = g_T G t := by
  have h := (hK.1.2 t _ ht).2
  have h2 : s.vm.findClass ("[" ++ ty.toString) = some (g_T G t) := by
    cases ty <;> first | exact h | exact absurd rfl (hp _)
  exact Option.some.inj (hA.symm.trans h2)
theorem V_newa {N n t : Nat} {v : Int32} {at0 : ArrayType} {ty : FieldType} {f : (Nat → Int32) ⊕ (Nat → Int64) ⊕ (Nat → Option Nat)} (hd : decode y.2.1 pc = .ok (.newarray at0, 2)) (hat : newarray.typeOf at0 = ty) (hw : Cond.arrayClass ty ∈ gw) (ht : (g_ty G)[t]? = some (g_T G t, ty)) (hp : ∀ C, ty ≠ .object C) (hf : ∃ a0 : vp_A, cx G (t, .inr (n, f)) = .inl (g_T G t, a0) ∧ ∀ cA, vp_cell cA a0 = arrV cA n (fun _ => defaultValue ty)) (hn : ¬ v < 0) (hv : v.toNatClampNeg = n) (hb : n * componentBytes ty ≤ 536870912) (h0 : (h 0).1 = N) (hr : c0 + 1 ≤ mc ∧ z0 + n ≤ ms)
    (kk : V G y (d, mc, ms, c0 + 1, z0 + n) (pc + 2) L (.ref (N + 2) :: S) (va_up (va_up h (N + 2) (t, .inr (n, f))) 0 (N + 1, .inl [])) Q) : V G y (d, mc, ms, c0, z0) pc L (.int v :: S) h Q :=
  fun p e s m args below meth c H locs ls C c1 c2 hP hS hl => by
    subst hat
    have hH : H.size = g_b G + N := by rw [hP.2.2, h0]
    obtain ⟨a0, ha0, ha1⟩ := hf
    refine va_newaK C.1 C.2.1 (C.ts hw) rfl hd rfl hn hv hb hr.1 hr.2 hH fun H1 cA e1 z1 o1 hAr hNm => ?_
    have hcA := arr_cls C.kt ht hp hNm
    subst hcA
    refine kk p e s m args below meth c H1 locs ls C hr.1 hr.2 (hP.push h0 ?_ (by rw [z1, hH]) (fun q hq => o1 q (by rw [← hH]; exact hq))) (S_push hS (by rw [z1, hH]) (fun q hq => o1 q (by rw [← hH]; exact hq))) hl
    rw [ha0]
    show H1[g_b G + N]? = some (vp_cell _ a0)
    rw [ha1]
    exact e1
theorem V_newI {N n : Nat} {v : Int32} (hd : decode y.2.1 pc = .ok (.newarray .int, 2)) (hw : Cond.arrayClass .int ∈ gw) (hn : ¬ v < 0) (hv : v.toNatClampNeg = n) (hb : n ≤ 100000) (h0 : (h 0).1 = N) (hr : c0 + 1 ≤ mc ∧ z0 + n ≤ ms) (kk : V G y (d, mc, ms, c0 + 1, z0 + n) (pc + 2) L (.ref (N + 2) :: S) (va_up (va_up h (N + 2) (0, .inr (n, .inl (fun _ => 0)))) 0 (N + 1, .inl [])) Q) : V G y (d, mc, ms, c0, z0) pc L (.int v :: S) h Q :=
  V_newa (t := 0) hd rfl hw rfl (fun _ z => by cases z) ⟨_, rfl, fun _ => rfl⟩ hn hv (by show n * 4 ≤ _; omega) h0 hr kk
theorem V_newB {N n : Nat} {v : Int32} (hd : decode y.2.1 pc = .ok (.newarray .byte, 2)) (hw : Cond.arrayClass .byte ∈ gw) (hn : ¬ v < 0) (hv : v.toNatClampNeg = n) (hb : n ≤ 100000) (h0 : (h 0).1 = N) (hr : c0 + 1 ≤ mc ∧ z0 + n ≤ ms) (kk : V G y (d, mc, ms, c0 + 1, z0 + n) (pc + 2) L (.ref (N + 2) :: S) (va_up (va_up h (N + 2) (1, .inr (n, .inl (fun _ => 0)))) 0 (N + 1, .inl [])) Q) : V G y (d, mc, ms, c0, z0) pc L (.int v :: S) h Q :=
  V_newa (t := 1) hd rfl hw rfl (fun _ z => by cases z) ⟨_, rfl, fun _ => rfl⟩ hn hv (by show n * 1 ≤ _; omega) h0 hr kk
theorem V_newZ {N n : Nat} {v : Int32} (hd : decode y.2.1 pc = .ok (.newarray .boolean, 2)) (hw : Cond.arrayClass .boolean ∈ gw) (hn : ¬ v < 0) (hv : v.toNatClampNeg = n) (hb : n ≤ 100000) (h0 : (h 0).1 = N) (hr : c0 + 1 ≤ mc ∧ z0 + n ≤ ms) (kk : V G y (d, mc, ms, c0 + 1, z0 + n) (pc + 2) L (.ref (N + 2) :: S) (va_up (va_up h (N + 2) (2, .inr (n, .inl (fun _ => 0)))) 0 (N + 1, .inl [])) Q) : V G y (d, mc, ms, c0, z0) pc L (.int v :: S) h Q :=
  V_newa (t := 2) hd rfl hw rfl (fun _ z => by cases z) ⟨_, rfl, fun _ => rfl⟩ hn hv (by show n * 1 ≤ _; omega) h0 hr kk
theorem V_newJ {N n : Nat} {v : Int32} (hd : decode y.2.1 pc = .ok (.newarray .long, 2)) (hw : Cond.arrayClass .long ∈ gw) (hn : ¬ v < 0) (hv : v.toNatClampNeg = n) (hb : n ≤ 100000) (h0 : (h 0).1 = N) (hr : c0 + 1 ≤ mc ∧ z0 + n ≤ ms) (kk : V G y (d, mc, ms, c0 + 1, z0 + n) (pc + 2) L (.ref (N + 2) :: S) (va_up (va_up h (N + 2) (3, .inr (n, .inr (.inl (fun _ => 0))))) 0 (N + 1, .inl [])) Q) : V G y (d, mc, ms, c0, z0) pc L (.int v :: S) h Q :=
  V_newa (t := 3) hd rfl hw rfl (fun _ z => by cases z) ⟨_, rfl, fun _ => rfl⟩ hn hv (by show n * 8 ≤ _; omega) h0 hr kk
theorem V_anew {N n index : Nat} {v : Int32} (hd : decode y.2.1 pc = .ok (.anewarray index, 3)) (hw : Cond.classLink y.1.cls index "WordWheel$Tape" ∈ gw) (hn : ¬ v < 0) (hv : v.toNatClampNeg = n) (hb : n ≤ 100000) (h0 : (h 0).1 = N) (hr : c0 + 1 ≤ mc ∧ z0 + n ≤ ms) (kk : V G y (d, mc, ms, c0 + 1, z0 + n) (pc + 3) L (.ref (N + 2) :: S) (va_up (va_up h (N + 2) (4, .inr (n, .inr (.inr (fun _ => none))))) 0 (N + 1, .inl [])) Q) : V G y (d, mc, ms, c0, z0) pc L (.int v :: S) h Q :=
  fun p e s m args below meth c H locs ls C c1 c2 hP hS hl => by
    subst hv
    have hH : H.size = g_b G + N := by rw [hP.2.2, h0]
    refine W.anew C.1 C.2.1 C.own (C.ts hw) (va_AO.use C.kt.2.2) rfl hd rfl hn (by omega) hr.1 hr.2 fun cA kA comp f1 f2 f3 f4 => ?_
    have hcA : cA = g_T G 4 := by
      obtain ⟨_, _, -, -, -, h4⟩ := (C.kt.1.2 4 _ rfl).2
      exact Option.some.inj (f1.symm.trans h4)
    subst hcA
    have z1 : (H.push ({ cls := g_T G 4, slots := Array.replicate v.toNatClampNeg .null, vm := .none } : Cell)).size = H.size + 1 := Array.size_push _
    have e1 : (H.push ({ cls := g_T G 4, slots := Array.replicate v.toNatClampNeg .null, vm := .none } : Cell))[H.size]? = some (arrV (g_T G 4) v.toNatClampNeg (fun _ => .null)) := by rw [Array.getElem?_push_size, ← arrV_new]
    have o1 : ∀ q : Nat, q < H.size → (H.push ({ cls := g_T G 4, slots := Array.replicate v.toNatClampNeg .null, vm := .none } : Cell))[q]? = H[q]? := fun q hq => by rw [Array.getElem?_push, if_neg (Nat.ne_of_lt hq)]
    have hst : (F0 m (pc + 3) ls (Value.ref H.size :: S.map (cv G))) = F0 m (pc + 3) ls ((Value.ref (N + 2) :: S).map (cv G)) := by
      rw [hH]; rfl
    refine W.eq hst ?_
    refine kk p e s m args below meth c _ locs ls C hr.1 hr.2 (hP.push h0 ?_ z1 o1) (S_push hS z1 o1) hl
    show _[g_b G + N]? = some (vp_cell _ _)
    rw [← hH, e1, vp_cell_q]
    rfl
theorem V_aast {k n v ci N0 : Nat} {f : Nat → Option Nat} {i : Int32} {fs : List Value} {T : u_T} (hd : decode y.2.1 pc = .ok (.aastore, 1)) (hc : h (k + 2) = (4, .inr (n, .inr (.inr f)))) (hv : h (v + 2) = (ci, .inl fs)) (hci : ci < 100) (hcl : vwCl[ci]? = some ("WordWheel$Tape", T, N0)) (hin : vp_in i n) (kk : V G y (d, mc, ms, c0, z0) (pc + 1) L S (va_up h (k + 2) (4, .inr (n, .inr (.inr (va_up f i.toNatClampNeg (some (v + 2))))))) Q) : V G y (d, mc, ms, c0, z0) pc L (.ref (v + 2) :: .int i :: .ref (k + 2) :: S) h Q :=
  fun p e s m args below meth c H locs ls C c1 c2 hP hS hl => by
    have hlt : i.toNatClampNeg < n := Nat.not_le.mp fun q => hin (Or.inr q)
    have h0 : ¬ i < 0 := fun q => hin (Or.inl q)
    have hA : va_at (g_D G) vwCl (g_b G + k, cx G (4, .inr (n, .inr (.inr f)))) H := hP.at hc (by show 4 < 100; decide)
    obtain ⟨r', hr', cellV, g1, g2, g3, -⟩ := hP.at hv hci
    have hcls := (C.kt.1.1 ci _ hcl).2
    obtain ⟨kA, comp, k1, k2, k3, -⟩ := (C.kt.1.2 4 _ rfl).2
    have hcomp : comp = (g_D G).1 ci := Option.some.inj (k3.symm.trans hcls.1)
    subst hcomp
    obtain ⟨kC, hkC, -⟩ := hcls.2
    refine W.aast C.1 C.2.1 hA (fun q h => by cases h) (fun h => by cases h) k1 k2 rfl hkC ⟨h0, by show _ < (arrV _ _ _).slots.size; rw [arrV_size]; exact hlt⟩ g1 (fun q h => by rw [g3] at h; cases h) (by rw [g2]; exact hkC) (by rw [g2]; exact va_assign hcls) rfl rfl hd fun H1 e1 z oq => ?_
    refine kk p e s m args below meth c H1 _ ls C c1 c2 (hP.set hc (by show 4 < 100; decide) ?_ z oq) (hS.put z oq (Nat.le_add_right _ _)) hl
    show H1[g_b G + k]? = some (vp_cell _ _)
    rw [e1]
    rw [vp_cell_q, vp_cell_q, arrV_store]
    congr 2
    funext q
    by_cases hq : q = i.toNatClampNeg
    · subst hq
      simp [updV, va_up, va_rf, ad]
    · simp [updV, va_up, hq]
theorem V_obj {k index : Nat} (hd : decode y.2.1 pc = .ok (.invokespecial index, 3)) (hw : Cond.methodLink y.1.cls index objectInit ∈ gw) (hw2 : Cond.instanceMethod objectInit ∈ gw) (hw3 : Cond.code objectInit ⟨#[0xb1]⟩ 1 none ∈ gw) (hdd : 1 ≤ d ∧ d ≤ 9) (hrm : (S.map fun v => v.category).sum ≤ 8) (kk : V G y (d, mc, ms, c0, z0) (pc + 3) L S h Q) : V G y (d, mc, ms, c0, z0) pc L (.ref k :: S) h Q :=
  fun p e s m args below meth c H locs ls C c1 c2 hP hS hl => by
    have hr2 : ((S.map (cv G)).map fun v => v.category).sum ≤ 8 := by
      rw [List.map_map]
      exact Nat.le_trans (Nat.le_of_eq (congrArg List.sum (List.map_congr_left (fun v _ => cv_cat G v)))) hrm
    refine W.objInit C.1 C.2.1 C.own (C.ts hw) (C.ts hw2) (C.ts hw3) rfl (by rw [C.2.2.2.1]; exact hl.1) rfl hd hdd.1 ?_ (kk p e s m args below meth c H locs ls C c1 c2 hP hS hl)
    have h8 := lv_room (m := m) (pc := pc) (ls := ls) (rest := (Value.ref k :: S).map (cv G)) hr2
    show 2 * _ + _ + 12 ≤ r_lo d
    unfold r_lo
    have h9 : 2 * (F0 m pc ls ((Value.ref k :: S).map (cv G))).monitorRoom + ((S.map (cv G)).map fun v => v.category).sum ≤ 8 := h8
    split <;> omega
variable {y' : my} {d' mc' ms' : Nat} {S0 : List Value} {Q' : Option Value → ah → Prop}
theorem V_callI {k index n : Nat} {As : List Value} (hM : Ct G y' d' mc' ms' (.ref k :: As) h Q') (hd : decode y.2.1 pc = .ok (.invokespecial index, 3)) (hret : y'.2.2.2 = none) (hnm : y'.1.name = "<init>") (hw : Cond.methodLink y.1.cls index y'.1 ∈ gw ∧ Cond.instanceMethod y'.1 ∈ gw) (cw : Cw y y' index n d') (hdd : d' < d ∧ d ≤ 9) (hn : As.length = n) (hst : S0 = As.reverse ++ .ref k :: S) (hrm : (S.map fun v => v.category).sum ≤ 8) (hf : c0 + mc' ≤ mc ∧ z0 + ms' ≤ ms)
    (kk : ∀ r h', Q' r h' → V G y (d, mc, ms, c0 + mc', z0 + ms') (pc + 3) L (r.toList ++ S) h' Q) : V G y (d, mc, ms, c0, z0) pc L S0 h Q :=
  fun p e s m args below meth c H locs ls C c1 c2 hP hS hl => by
    have cw1 := cw.1
    have cb := callB_of (R := r_m d mc ms) (rm := r_m d' mc' ms') (mc := mc') (ms := ms') n C.2.2.2.2.2.1 (ws_in cw.1) rfl rfl rfl (C.ts cw.2.1) (C.ts hw.1) cw.2.2.1 ⟨hdd.1, lo_step hdd.1 hdd.2 cw.2.2.2⟩
    rw [hret] at cb
    refine V_run (va_runI (As := As.map (cv G)) ⟨C.1, C.2.1, C.2.2.2.1, C.own, C.2.2.2.2.2.1⟩ hM ⟨cb, hnm, C.ts hw.2⟩ ⟨pc_blind G _ h, fun U hU hW => U_pre (a := .ref k :: As) hP C.kt C.ro C.nb hS hU hW⟩ rfl (by rw [List.length_map]; exact hn) hl.1 ?_ ?_ hd hf) hS (fun r h' H1 locs1 hq hp hs => kk r h' hq p e s m args below meth c H1 locs1 ls C hf.1 hf.2 hp hs hl)
    · show S0.map (cv G) = _
      rw [hst, List.map_append, List.map_reverse]
      rfl
    · refine lv_room ?_
      rw [List.map_map]
      exact Nat.le_trans (Nat.le_of_eq (congrArg List.sum (List.map_congr_left (fun v _ => cv_cat G v)))) hrm
theorem V_callIN {k index n : Nat} {As : List Value} {host : String} (hM : Ct G y' d' mc' ms' (.ref k :: As) h Q') (hd : decode y.2.1 pc = .ok (.invokespecial index, 3)) (hret : y'.2.2.2 = none) (hnm : y'.1.name = "<init>") (hw : Cond.methodLinkNest y.1.cls index y'.1 host ∈ nw ∧ Cond.instanceMethod y'.1 ∈ gw) (cw : Cw y y' index n d') (hdd : d' < d ∧ d ≤ 9) (hn : As.length = n) (hst : S0 = As.reverse ++ .ref k :: S) (hrm : (S.map fun v => v.category).sum ≤ 8) (hf : c0 + mc' ≤ mc ∧ z0 + ms' ≤ ms)
    (kk : ∀ r h', Q' r h' → V G y (d, mc, ms, c0 + mc', z0 + ms') (pc + 3) L (r.toList ++ S) h' Q) : V G y (d, mc, ms, c0, z0) pc L S0 h Q :=
  fun p e s m args below meth c H locs ls C c1 c2 hP hS hl => by
    have cb := va_cnB (R := r_m d mc ms) (rm := r_m d' mc' ms') (mc := mc') (ms := ms') n C.2.2.2.2.2.1 (ws_in cw.1) rfl rfl rfl (C.kt.2.1 _ hw.1) (C.ts cw.2.1) cw.2.2.1 ⟨hdd.1, lo_step hdd.1 hdd.2 cw.2.2.2⟩
    rw [hret] at cb
    refine V_run (va_runIN (As := As.map (cv G)) ⟨C.1, C.2.1, C.2.2.2.1, C.own, C.2.2.2.2.2.1⟩ hM ⟨cb, hnm, C.ts hw.2⟩ ⟨pc_blind G _ h, fun U hU hW => U_pre (a := .ref k :: As) hP C.kt C.ro C.nb hS hU hW⟩ rfl (by rw [List.length_map]; exact hn) hl.1 ?_ ?_ hd hf) hS (fun r h' H1 locs1 hq hp hs => kk r h' hq p e s m args below meth c H1 locs1 ls C hf.1 hf.2 hp hs hl)
    · show S0.map (cv G) = _
      rw [hst, List.map_append, List.map_reverse]
      rfl
    · refine lv_room ?_
      rw [List.map_map]
      exact Nat.le_trans (Nat.le_of_eq (congrArg List.sum (List.map_congr_left (fun v _ => cv_cat G v)))) hrm
end AR
