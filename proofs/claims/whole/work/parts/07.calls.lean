/-! calls, and a contract out of a walk -/
theorem Kt.moved {G : gx} {s U : State} (hW : s.WarmedH U.vm) (h : Kt G s) : Kt G U := ⟨va_K.moved hW.alike h.1, fun w hw => nw_warm hw hW (h.2.1 w hw), h.2.2.moved hW.alike⟩
theorem Kt.same {G : gx} {u U : State} (hv : u.vm = U.vm) (h : Kt G u) : Kt G U := ⟨va_K.moved (by rw [hv]; exact Vm.Alike.refl U.vm) h.1, fun w hw => va_Nw.same (nw_tab hw) hv (h.2.1 w hw), h.2.2.moved (by rw [hv]; exact Vm.Alike.refl U.vm)⟩
theorem Ro.moved {G : gx} {s U : State} {H : Heap} (hW : s.vm.Alike U.vm) (h : Ro G s H) : Ro G U H := ⟨h.1.moved hW, h.2.1.moved hW, h.2.2.1.moved hW, h.2.2.2⟩
theorem Ro.kept {G : gx} {U : State} {H H1 : Heap} (h : Ro G U H) (hb : g_b G ≤ H.size) (hq : ∀ q : Nat, q < H.size → ¬ g_A G q → H1[q]? = H[q]?) : Ro G U H1 := ⟨h.1.kept (hq _ (Nat.lt_of_lt_of_le h.2.2.2.1 hb) (Nat.not_le.mpr h.2.2.2.1)), h.2.1.kept hq, h.2.2.1.kept hq, h.2.2.2⟩
theorem pc_blind (G : gx) (a : List Value) (h : ah) : FrameBlind (va_Pc (a.map (cv G)) (PU G h)) := by
  intro a U g mk q
  obtain ⟨q0, q1, q2, q3⟩ := q
  exact ⟨q0, q1, Kt.same (u := U) rfl q2, Ro.moved (Vm.Alike.refl U.vm) q3⟩
theorem lq_la (G : gx) : ∀ (a : List Value) (i : Nat), (a.all fun v => v.category == 1) = true → lq G i (a.map some) = lv_args i (a.map (cv G))
  | [], _, _ => rfl
  | v :: vs, i, h => by
    simp only [List.all_cons, Bool.and_eq_true, beq_iff_eq] at h
    show (i, cv G v) :: lq G (i + 1) (vs.map some) = (i, cv G v) :: lv_args (if (cv G v).category = 2 then i + 2 else i + 1) (vs.map (cv G))
    rw [cv_cat, h.1, if_neg (by decide), lq_la G vs (i + 1) h.2]
/-- the locals with which a method begins -/
def la : List Value → List (Option Value)
  | [] => []
  | v :: vs => match v with
    | .long x => some (.long x) :: none :: la vs
    | .double x => some (.double x) :: none :: la vs
    | v => some v :: la vs
theorem lq_la2 (G : gx) : ∀ (a : List Value) (i : Nat), lq G i (la a) = lv_args i (a.map (cv G))
  | [], _ => rfl
  | v :: vs, i => by
    cases v <;> exact congrArg (List.cons _) (lq_la2 G vs _)
theorem Ct_of {G : gx} {y : my} {d mc ms : Nat} {a : List Value} {h : ah} {Q : Option Value → ah → Prop} (hy : plainName y.1.cls = true) (ha : (lg_sl (a.map (cv G))).length ≤ y.2.2.1) (k : V G y (d, mc, ms, 0, 0) 0 (la a) [] h Q) : Ct G y d mc ms a h Q := by
  refine Met.ofW (cc := y.2.1) (maxL := y.2.2.1) (ret := y.2.2.2) hy rfl ?_
  intro p e s m args below meth c s₁ B hml hv
  obtain ⟨rfl, hH, hK, hR⟩ := hv
  have hl := lv_entry (a.map (cv G)) (n := y.2.2.1) ha
  rw [lg_entry_eq]
  generalize (lg_sl (a.map (cv G)) ++ List.replicate (y.2.2.1 - (lg_sl (a.map (cv G))).length) Slot.unset).toArray = ls at hl ⊢
  rw [← lq_la2 G a 0] at hl
  exact k p e s m _ below meth c s.heap [] ls ⟨B.exec, B.bytes, B.returns, hml, findClass_of_methodNamed B.named, fun w hw => atoms_spec (ws := w_s y) B.pre w (List.mem_cons_of_mem _ hw), B.notSynchronized, fun hh => (name_of_methodNamed B.named B.method).1.trans hh, hK, hR, by rw [hH.2.2]; exact Nat.le_add_right _ _⟩ (Nat.zero_le _) (Nat.zero_le _) hH va_S.rf hl
theorem Ct.mono {G : gx} {y : my} {d mc ms : Nat} {a : List Value} {h : ah} {Q Q2 : Option Value → ah → Prop} (hc : Ct G y d mc ms a h Q) (hq : ∀ r h', Q r h' → Q2 r h') : Ct G y d mc ms a h Q2 := by
  intro p e ha hc2 hk s m args below hf happ hP hZ
  obtain ⟨t, o, h1, h2, h3, ⟨⟨r, h', e1, e2, e3⟩, hF⟩, hL⟩ := hc p e ha hc2 hk s m args below hf happ hP hZ
  exact ⟨t, o, h1, h2, h3, ⟨⟨r, h', e1, hq _ _ e2, e3⟩, hF⟩, hL⟩
theorem lo_step {d d' maxL : Nat} (h : d' < d) (hd : d ≤ 9) (hm : maxL ≤ 14) : 8 + (maxL + 11) + r_lo d' ≤ r_lo d := by
  unfold r_lo
  split <;> split <;> omega
theorem ws_in {y' : my} (hw : Cond.code y'.1 y'.2.1 y'.2.2.1 y'.2.2.2 ∈ gw) : GoodIn gw (w_s y') := by
  intro w h
  rcases List.mem_cons.mp h with rfl | h
  · exact ⟨hw, gw_good hw⟩
  · exact ⟨h, gw_good h⟩
theorem Hp.recv {G : gx} {h : ah} {H : Heap} (hP : Hp G h H) {s : State} (hK : Kt G s) {k ci N : Nat} {fs : List Value} {C0 : String} {T : u_T} (hc : h (k + 2) = (ci, .inl fs)) (hci : ci < 100) (hcl : vwCl[ci]? = some (C0, T, N)) : ∃ cell : Cell, H[g_b G + k]? = some cell ∧ cell.vm.isStatics = false ∧ s.vm.findClass C0 = some cell.cls :=
  va_recv (q := (C0, T, N)) hK.1 hP.1 hcl (hP.el hc hci)
theorem U_pre {G : gx} {h : ah} {H : Heap} {s U : State} {locs : List Loc} {a : List Value} (hP : Hp G h H) (hK : Kt G s) (hR : Ro G s s.heap) (hb : g_b G ≤ s.heap.size) (hS : va_S (g_A G) s.heap H locs) (hU : U.heap = H) (hW : s.WarmedH U.vm) : va_Pc (a.map (cv G)) (PU G h) (a.map (cv G)).toArray U :=
  ⟨rfl, by rw [hU]; exact hP, hK.moved hW, by rw [hU]; exact (Ro.kept hR hb hS.2.1).moved hW.alike⟩
section CR
variable {G : gx} {y y' : my} {d mc ms cc zz pc d' mc' ms' : Nat} {L : List (Option Value)} {S S0 : List Value} {h : ah} {Q Q' : Option Value → ah → Prop}
theorem V_run {p : Program} {e : Env} {s : State} {m : MethodId} {args : Array Value} {below : List Frame} {meth : Method} {c : Code} {H : Heap} {locs : List Loc} {ls : Array Slot} {a : Array Value}
    (hr : va_Run p (g_l G) e (r_m d mc ms) s m args below meth c H locs cc zz mc' ms' (F0 m pc ls (S0.map (cv G))) (S.map (cv G)) (Qm G Q' a) (g_A G)) (hS : va_S (g_A G) s.heap H locs)
    (kk : ∀ (r : Option Value) (h' : ah) (H1 : Heap) (locs1 : List Loc), Q' r h' → Hp G h' H1 → va_S (g_A G) s.heap H1 locs1 → W p (g_l G) e (r_m d mc ms) s m args below meth c H1 locs1 (cc + mc') (zz + ms') (MQ below (Qm G Q) args s mc ms (g_A G)) (F0 m (pc + 3) ls ((r.toList ++ S).map (cv G)))) :
    W p (g_l G) e (r_m d mc ms) s m args below meth c H locs cc zz (MQ below (Qm G Q) args s mc ms (g_A G)) (F0 m pc ls (S0.map (cv G))) := by
  intro T hT X
  obtain ⟨v, st₀, t, T', L, h0, X', hL, e1, e2, ⟨⟨r, h', hv, hq, hp⟩, hz, hk⟩, st⟩ := hr T hT X
  cases hv
  rw [h0] at hz hk
  obtain ⟨t2, a1, b1⟩ := kk r h' T'.heap (locs ++ L) hq (by rw [e1]; exact hp)
    ⟨Nat.le_trans hS.1 (by rw [e1]; exact hz), fun q h1 h2 => by rw [e1, hk q (Nat.lt_of_lt_of_le h1 hS.1) h2]; exact hS.2.1 q h1 h2, fun q hq => by
      rcases List.mem_append.mp hq with h | h
      · exact hS.2.2 q h
      · exact hL q h⟩ T' rfl X'
  refine ⟨t2, st t2 ?_, b1⟩
  cases r <;> exact a1
/-- words and numbers of a call of y' -/
def Cw (y y' : my) (index n d' : Nat) : Prop := Cond.code y'.1 y'.2.1 y'.2.2.1 y'.2.2.2 ∈ gw ∧ Cond.initialized y'.1.cls ∈ gw ∧ (y'.1.cls ≠ "java/lang/invoke/MethodHandle" ∧ y'.1.cls ≠ "java/lang/invoke/VarHandle" ∧ (parseMethodDescriptor y'.1.desc).map (fun d => d.parameters.length) = some n) ∧ y'.2.2.1 ≤ 14
theorem V_callV {k ci index n N : Nat} {fs As : List Value} {T : u_T} (hM : Ct G y' d' mc' ms' (.ref (k + 2) :: As) h Q') (hd : decode y.2.1 pc = .ok (.invokevirtual index, 3)) (hw : Cond.methodLink y.1.cls index y'.1 ∈ gw ∧ Cond.instanceMethod y'.1 ∈ gw ∧ Cond.selects y'.1.cls y'.1 y'.1 ∈ gw) (cw : Cw y y' index n d') (hcl : vwCl[ci]? = some (y'.1.cls, T, N)) (hc : h (k + 2) = (ci, .inl fs)) (hci : ci < 100) (hdd : d' < d ∧ d ≤ 9) (hn : As.length = n) (hst : S0 = As.reverse ++ .ref (k + 2) :: S) (hrm : (S.map fun v => v.category).sum ≤ 8) (hf : cc + mc' ≤ mc ∧ zz + ms' ≤ ms)
    (kk : ∀ r h', Q' r h' → V G y (d, mc, ms, cc + mc', zz + ms') (pc + 3) L (r.toList ++ S) h' Q) : V G y (d, mc, ms, cc, zz) pc L S0 h Q :=
  fun p e s m args below meth c H locs ls C c1 c2 hP hS hl => by
    refine V_run (va_runV (As := As.map (cv G)) ⟨C.1, C.2.1, C.2.2.2.1, C.own, C.2.2.2.2.2.1⟩ hM ⟨callB_of n C.2.2.2.2.2.1 (ws_in cw.1) rfl rfl rfl (C.ts cw.2.1) (C.ts hw.1) cw.2.2.1 ⟨hdd.1, lo_step hdd.1 hdd.2 cw.2.2.2⟩, C.ts hw.2.1, C.ts hw.2.2⟩ ⟨pc_blind G _ h, hP.recv C.kt hc hci hcl, fun U hU hW => U_pre (a := .ref (k + 2) :: As) hP C.kt C.ro C.nb hS hU hW⟩ rfl (by rw [List.length_map]; exact hn) hl.1 ?_ ?_ hd hf) hS (fun r h' H1 locs1 hq hp hs => kk r h' hq p e s m args below meth c H1 locs1 ls C hf.1 hf.2 hp hs hl)
    · show S0.map (cv G) = _
      rw [hst, List.map_append, List.map_reverse]
      rfl
    · refine lv_room ?_
      rw [List.map_map]
      exact Nat.le_trans (Nat.le_of_eq (congrArg List.sum (List.map_congr_left (fun v _ => cv_cat G v)))) hrm
theorem V_callVN {k ci index n N : Nat} {fs As : List Value} {T : u_T} {host : String} (hM : Ct G y' d' mc' ms' (.ref (k + 2) :: As) h Q') (hd : decode y.2.1 pc = .ok (.invokevirtual index, 3)) (hw : Cond.methodLinkNest y.1.cls index y'.1 host ∈ nw ∧ Cond.instanceMethod y'.1 ∈ gw ∧ Cond.selects y'.1.cls y'.1 y'.1 ∈ gw) (cw : Cw y y' index n d') (hcl : vwCl[ci]? = some (y'.1.cls, T, N)) (hc : h (k + 2) = (ci, .inl fs)) (hci : ci < 100) (hdd : d' < d ∧ d ≤ 9) (hn : As.length = n) (hst : S0 = As.reverse ++ .ref (k + 2) :: S) (hrm : (S.map fun v => v.category).sum ≤ 8) (hf : cc + mc' ≤ mc ∧ zz + ms' ≤ ms)
    (kk : ∀ r h', Q' r h' → V G y (d, mc, ms, cc + mc', zz + ms') (pc + 3) L (r.toList ++ S) h' Q) : V G y (d, mc, ms, cc, zz) pc L S0 h Q :=
  fun p e s m args below meth c H locs ls C c1 c2 hP hS hl => by
    refine V_run (va_runVN (As := As.map (cv G)) ⟨C.1, C.2.1, C.2.2.2.1, C.own, C.2.2.2.2.2.1⟩ hM ⟨va_cnB n C.2.2.2.2.2.1 (ws_in cw.1) rfl rfl rfl (C.kt.2.1 _ hw.1) (C.ts cw.2.1) cw.2.2.1 ⟨hdd.1, lo_step hdd.1 hdd.2 cw.2.2.2⟩, C.ts hw.2.1, C.ts hw.2.2⟩ ⟨pc_blind G _ h, hP.recv C.kt hc hci hcl, fun U hU hW => U_pre (a := .ref (k + 2) :: As) hP C.kt C.ro C.nb hS hU hW⟩ rfl (by rw [List.length_map]; exact hn) hl.1 ?_ ?_ hd hf) hS (fun r h' H1 locs1 hq hp hs => kk r h' hq p e s m args below meth c H1 locs1 ls C hf.1 hf.2 hp hs hl)
    · show S0.map (cv G) = _
      rw [hst, List.map_append, List.map_reverse]
      rfl
    · refine lv_room ?_
      rw [List.map_map]
      exact Nat.le_trans (Nat.le_of_eq (congrArg List.sum (List.map_congr_left (fun v _ => cv_cat G v)))) hrm
theorem V_callS {index n : Nat} {As : List Value} (hM : Ct G y' d' mc' ms' As h Q') (hd : decode y.2.1 pc = .ok (.invokestatic index, 3)) (hw : Cond.methodLink y.1.cls index y'.1 ∈ gw ∧ Cond.static y'.1 ∈ gw) (cw : Cw y y' index n d') (hdd : d' < d ∧ d ≤ 9) (hn : As.length = n) (hst : S0 = As.reverse ++ S) (hrm : (S.map fun v => v.category).sum ≤ 8) (hf : cc + mc' ≤ mc ∧ zz + ms' ≤ ms)
    (kk : ∀ r h', Q' r h' → V G y (d, mc, ms, cc + mc', zz + ms') (pc + 3) L (r.toList ++ S) h' Q) : V G y (d, mc, ms, cc, zz) pc L S0 h Q :=
  fun p e s m args below meth c H locs ls C c1 c2 hP hS hl => by
    refine V_run (va_runS (As := As.map (cv G)) ⟨C.1, C.2.1, C.2.2.2.1, C.own, C.2.2.2.2.2.1⟩ hM ⟨callB_of n C.2.2.2.2.2.1 (ws_in cw.1) rfl rfl rfl (C.ts cw.2.1) (C.ts hw.1) cw.2.2.1 ⟨hdd.1, lo_step hdd.1 hdd.2 cw.2.2.2⟩, C.ts hw.2⟩ ⟨pc_blind G _ h, fun U hU hW => U_pre (a := As) hP C.kt C.ro C.nb hS hU hW⟩ rfl (by rw [List.length_map]; exact hn) hl.1 ?_ ?_ hd hf) hS (fun r h' H1 locs1 hq hp hs => kk r h' hq p e s m args below meth c H1 locs1 ls C hf.1 hf.2 hp hs hl)
    · show S0.map (cv G) = _
      rw [hst, List.map_append, List.map_reverse]
    · refine lv_room ?_
      rw [List.map_map]
      exact Nat.le_trans (Nat.le_of_eq (congrArg List.sum (List.map_congr_left (fun v _ => cv_cat G v)))) hrm
theorem V_callSN {index n : Nat} {As : List Value} {host : String} (hM : Ct G y' d' mc' ms' As h Q') (hd : decode y.2.1 pc = .ok (.invokestatic index, 3)) (hw : Cond.methodLinkNest y.1.cls index y'.1 host ∈ nw ∧ Cond.static y'.1 ∈ gw) (cw : Cw y y' index n d') (hdd : d' < d ∧ d ≤ 9) (hn : As.length = n) (hst : S0 = As.reverse ++ S) (hrm : (S.map fun v => v.category).sum ≤ 8) (hf : cc + mc' ≤ mc ∧ zz + ms' ≤ ms)
    (kk : ∀ r h', Q' r h' → V G y (d, mc, ms, cc + mc', zz + ms') (pc + 3) L (r.toList ++ S) h' Q) : V G y (d, mc, ms, cc, zz) pc L S0 h Q :=
  fun p e s m args below meth c H locs ls C c1 c2 hP hS hl => by
    refine V_run (va_runSN (As := As.map (cv G)) ⟨C.1, C.2.1, C.2.2.2.1, C.own, C.2.2.2.2.2.1⟩ hM ⟨va_cnB n C.2.2.2.2.2.1 (ws_in cw.1) rfl rfl rfl (C.kt.2.1 _ hw.1) (C.ts cw.2.1) cw.2.2.1 ⟨hdd.1, lo_step hdd.1 hdd.2 cw.2.2.2⟩, C.ts hw.2, trivial⟩ ⟨pc_blind G _ h, fun U hU hW => U_pre (a := As) hP C.kt C.ro C.nb hS hU hW⟩ rfl (by rw [List.length_map]; exact hn) hl.1 ?_ ?_ hd hf) hS (fun r h' H1 locs1 hq hp hs => kk r h' hq p e s m args below meth c H1 locs1 ls C hf.1 hf.2 hp hs hl)
    · show S0.map (cv G) = _
      rw [hst, List.map_append, List.map_reverse]
    · refine lv_room ?_
      rw [List.map_map]
      exact Nat.le_trans (Nat.le_of_eq (congrArg List.sum (List.map_congr_left (fun v _ => cv_cat G v)))) hrm
/-- fewer locals; the same by another name -/
theorem V_eq {b : bg} {pc2 : Nat} {L2 : List (Option Value)} {S2 : List Value} {h2 : ah} (h1 : pc = pc2) (hL : L = L2) (hS : S = S2) (hh : h = h2) (k : V G y b pc2 L2 S2 h2 Q) : V G y b pc L S h Q := by
  subst h1; subst hL; subst hS; subst hh; exact k
def sb : List (Option Value) → List (Option Value) → Prop
  | [], _ => True
  | none :: r, s => sb r s.tail
  | some v :: r, s => s.head? = some (some v) ∧ sb r s.tail
theorem lq_sb (G : gx) : ∀ (L' L : List (Option Value)) (j : Nat) (q : Nat × Value), sb L' L → q ∈ lq G j L' → q ∈ lq G j L
  | [], _, _, _, _, h => by simp [lq] at h
  | none :: r, L, j, q, hs, h => lq_tail G (lq_sb G r L.tail (j + 1) q hs h)
  | some v :: r, L, j, q, hs, h => by
    match L, hs with
    | [], hs => cases hs.1
    | x :: s, hs =>
      have hx : x = some v := by have := hs.1; simpa using this
      subst hx
      rcases List.mem_cons.mp (show q ∈ (j, cv G v) :: lq G (j + 1) r from h) with rfl | h
      · exact List.mem_cons_self
      · exact List.mem_cons_of_mem _ (lq_sb G r s (j + 1) q hs.2 h)
theorem V_sub {b : bg} {L' : List (Option Value)} (hs : sb L' L) (k : V G y b pc L' S h Q) : V G y b pc L S h Q :=
  fun p e s m args below meth c H locs ls C c1 c2 hP hS hl => k p e s m args below meth c H locs ls C c1 c2 hP hS ⟨hl.1, hl.2.1, fun q hq => hl.2.2 q (lq_sb G L' L 0 q hs hq)⟩
theorem V_mono {b : bg} {Q2 : Option Value → ah → Prop} (hq : ∀ r h', Q r h' → Q2 r h') (k : V G y b pc L S h Q) : V G y b pc L S h Q2 :=
  fun p e s m args below meth c H locs ls C c1 c2 hP hS hl T hT X => by
    obtain ⟨t, a1, o, b1, b2, ⟨⟨r, h', e1, e2, e3⟩, hF⟩, hL⟩ := k p e s m args below meth c H locs ls C c1 c2 hP hS hl T hT X
    exact ⟨t, a1, o, b1, b2, ⟨⟨r, h', e1, hq _ _ e2, e3⟩, hF⟩, hL⟩
end CR
