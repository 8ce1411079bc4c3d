/-! the law's entry: what the Statement gives is what our judgement asks -/
def hE : ah := fun k => if k = 0 then (0, .inl []) else (100, .inl [])
theorem tb_of {w : Cond} (h : w ∈ gw) : w ∈ lw_tbl := (List.mem_filter.mp h).1
theorem st_tot {args : Array Value} {s : State} (hgv : (Jvm.Cond.and given_1 narrow_1).before args s = true) : ∃ t : Nat, (Term.static RX3 "TOTIENT" "[I").eval args s none [] s = some (.ref t) ∧ va_T .int t 15 (fun j => .int (totF j)) (fun q : Nat => s.heap.size ≤ q) s s.heap := by
  have hs := flat_of_before _ hgv
  refine va_Tof (N := 15) (by decide) (hs (.arrayOf (.static RX3 "TOTIENT" "[I") .int) (by decide +kernel)) (va_eqt (hs (.eq (.length (.static RX3 "TOTIENT" "[I")) (.int 15)) (by decide +kernel))) (fun j hj => ?_) (fun a ha => Nat.not_le.mpr ha)
  match j, hj with
  | 0, _ => exact va_eqt (hs (.eq (.elem (.static RX3 "TOTIENT" "[I") (.int 0)) (.int 0)) (by decide +kernel))
  | 1, _ => exact va_eqt (hs (.eq (.elem (.static RX3 "TOTIENT" "[I") (.int 1)) (.int 1)) (by decide +kernel))
  | 2, _ => exact va_eqt (hs (.eq (.elem (.static RX3 "TOTIENT" "[I") (.int 2)) (.int 1)) (by decide +kernel))
  | 3, _ => exact va_eqt (hs (.eq (.elem (.static RX3 "TOTIENT" "[I") (.int 3)) (.int 2)) (by decide +kernel))
  | 4, _ => exact va_eqt (hs (.eq (.elem (.static RX3 "TOTIENT" "[I") (.int 4)) (.int 2)) (by decide +kernel))
  | 5, _ => exact va_eqt (hs (.eq (.elem (.static RX3 "TOTIENT" "[I") (.int 5)) (.int 4)) (by decide +kernel))
  | 6, _ => exact va_eqt (hs (.eq (.elem (.static RX3 "TOTIENT" "[I") (.int 6)) (.int 2)) (by decide +kernel))
  | 7, _ => exact va_eqt (hs (.eq (.elem (.static RX3 "TOTIENT" "[I") (.int 7)) (.int 6)) (by decide +kernel))
  | 8, _ => exact va_eqt (hs (.eq (.elem (.static RX3 "TOTIENT" "[I") (.int 8)) (.int 4)) (by decide +kernel))
  | 9, _ => exact va_eqt (hs (.eq (.elem (.static RX3 "TOTIENT" "[I") (.int 9)) (.int 6)) (by decide +kernel))
  | 10, _ => exact va_eqt (hs (.eq (.elem (.static RX3 "TOTIENT" "[I") (.int 10)) (.int 4)) (by decide +kernel))
  | 11, _ => exact va_eqt (hs (.eq (.elem (.static RX3 "TOTIENT" "[I") (.int 11)) (.int 10)) (by decide +kernel))
  | 12, _ => exact va_eqt (hs (.eq (.elem (.static RX3 "TOTIENT" "[I") (.int 12)) (.int 4)) (by decide +kernel))
  | 13, _ => exact va_eqt (hs (.eq (.elem (.static RX3 "TOTIENT" "[I") (.int 13)) (.int 12)) (by decide +kernel))
  | 14, _ => exact va_eqt (hs (.eq (.elem (.static RX3 "TOTIENT" "[I") (.int 14)) (.int 6)) (by decide +kernel))
  | j + 15, h => omega
theorem st_cls {args : Array Value} {s : State} (hts : ∀ w ∈ lw_tbl, w.before args s = true) : ∃ (D : va_G), ∀ (c : Nat) (q : vw_C), vwCl[c]? = some q → u_Kn s q.1 q.2.1 q.2.2 (D.1 c) (D.2 c) := by
  have key : ∀ c : Nat, ∃ (cC : ClassId) (iS : Nat → Nat), ∀ q : vw_C, vwCl[c]? = some q → u_Kn s q.1 q.2.1 q.2.2 cC iS := by
    intro c
    match c with
    | 0 => obtain ⟨cC, iS, hk⟩ := u_known (C := RX0) (T := TX0) (N := 2) hts in_X0 (hts _ (tb_of kn_X0)); exact ⟨cC, iS, fun q hq => by cases hq; exact hk⟩
    | 1 => obtain ⟨cC, iS, hk⟩ := u_known (C := RX1) (T := TX1) (N := 5) hts in_X1 (hts _ (tb_of kn_X1)); exact ⟨cC, iS, fun q hq => by cases hq; exact hk⟩
    | 2 => obtain ⟨cC, iS, hk⟩ := u_known (C := RX2) (T := TX2) (N := 14) hts in_X2 (hts _ (tb_of kn_X2)); exact ⟨cC, iS, fun q hq => by cases hq; exact hk⟩
    | 3 => obtain ⟨cC, iS, hk⟩ := u_known (C := RX3) (T := TX3) (N := 4) hts in_X3 (hts _ (tb_of kn_X3)); exact ⟨cC, iS, fun q hq => by cases hq; exact hk⟩
    | 4 => obtain ⟨cC, iS, hk⟩ := u_known (C := RX4) (T := TX4) (N := 8) hts in_X4 (hts _ (tb_of kn_X4)); exact ⟨cC, iS, fun q hq => by cases hq; exact hk⟩
    | 5 => obtain ⟨cC, iS, hk⟩ := u_known (C := RX5) (T := TX5) (N := 5) hts in_X5 (hts _ (tb_of kn_X5)); exact ⟨cC, iS, fun q hq => by cases hq; exact hk⟩
    | 6 => obtain ⟨cC, iS, hk⟩ := u_known (C := RX6) (T := TX6) (N := 5) hts in_X6 (hts _ (tb_of kn_X6)); exact ⟨cC, iS, fun q hq => by cases hq; exact hk⟩
    | 7 => obtain ⟨cC, iS, hk⟩ := u_known (C := RX7) (T := TX7) (N := 9) hts in_X7 (hts _ (tb_of kn_X7)); exact ⟨cC, iS, fun q hq => by cases hq; exact hk⟩
    | 8 => obtain ⟨cC, iS, hk⟩ := u_known (C := RX8) (T := TX8) (N := 33) hts in_X8 (hts _ (tb_of kn_X8)); exact ⟨cC, iS, fun q hq => by cases hq; exact hk⟩
    | c + 9 => exact ⟨0, fun _ => 0, fun q hq => by simp [vwCl] at hq⟩
  exact ⟨(fun c => Classical.choose (key c), fun c => Classical.choose (Classical.choose_spec (key c))), fun c q hq => Classical.choose_spec (Classical.choose_spec (key c)) q hq⟩
theorem st_arr {args : Array Value} {s : State} {ty : FieldType} (hp : ∀ C, ty ≠ .object C) (h : (Cond.arrayClass ty).before args s = true) : ∃ cA : ClassId, ArrOfT s cA ty ∧ va_RA s cA ty := by
  obtain ⟨c, kA, comp, h1, h2, h3⟩ := Cond.arrayClass_spec h
  refine ⟨c, fun n z => ⟨fun k h => (by cases h), kA, h2, comp, h3⟩, ?_⟩
  cases ty <;> first | exact h1 | exact absurd rfl (hp _)
theorem st_over {args : Array Value} {s : State} {C : String} (h : (Cond.arrayOver (.object C)).before args s = true) : ∃ cA : ClassId, ArrOfT s cA (.object C) ∧ va_RA s cA (.object C) := by
  obtain ⟨comp, c, kA, h1, -, h3, h4, h5⟩ := Cond.arrayOver_spec h
  exact ⟨c, fun n z => ⟨fun k h => (by cases h), kA, h3, comp, h4⟩, kA, comp, h3, h4, h1, h5⟩
set_option maxHeartbeats 1000000 in
theorem start_of (hgo : ∀ G : gx, g_n G ≤ 3072 → V G mL_law (Bw 0 0) 0 [some (.ref 0)] [] hE Qw) {p : Program} {e : Env} {s : State} {m : MethodId} {below : List Frame} {meth : Method} {c : Code} (l : Launch) {b L : Nat} {xs : Nat → Int32} (hL : L ≤ 3072) (C0 : lw_At p s m meth c b L xs) : W p l e room_1 s m #[Value.ref b] below meth c s.heap [] 0 0 (lw_Z below #[Value.ref b] s) (entryFrame m ([Value.ref b] : List Value).toArray 4) := by
  obtain ⟨hx, hb, hr, hml, hown, hts, hX, hbl, hlocks, hgv⟩ := C0
  obtain ⟨D, hD⟩ := st_cls hts
  obtain ⟨t, ht1, ht2⟩ := st_tot hgv
  have htl : t < s.heap.size := Nat.not_le.mp ht2.out
  obtain ⟨a0, f0⟩ := st_arr (fun _ z => by cases z) (hts _ (tb_of kar_int))
  obtain ⟨a1, f1⟩ := st_arr (fun _ z => by cases z) (hts _ (tb_of kar_byte))
  obtain ⟨a2, f2⟩ := st_arr (fun _ z => by cases z) (hts _ (tb_of kar_boolean))
  obtain ⟨a3, f3⟩ := st_arr (fun _ z => by cases z) (hts _ (tb_of kar_long))
  have hov : (Cond.arrayOver (.object "WordWheel$Tape")).before #[Value.ref b] s = true := hts _ (by decide +kernel)
  obtain ⟨a4, f4⟩ := st_over hov
  have hZ : va_Z RX3 "TOTIENT" "[I" (.ref t) (fun q : Nat => s.heap.size ≤ q) s s.heap := va_Zof (hts (.laysStatic RX3 "TOTIENT" "[I") (by decide +kernel)) (hts _ (tb_of kj_X3)) ht1 (fun a ha => Nat.not_le.mpr ha)
  obtain ⟨G, hG⟩ : ∃ G : gx, G = (l, (b, t, s.heap.size), D, (fun j => match j with | 0 => a0 | 1 => a1 | 2 => a2 | 3 => a3 | _ => a4), L, xs) := ⟨_, rfl⟩
  have hK : Kt G s := by
    refine ⟨⟨by rw [hG]; exact hD, fun j q hq => ?_⟩, fun w hw => va_Nw.of (nw_tab hw) (hts w (List.mem_filter.mp hw).1), va_AO.of hov⟩
    rw [hG] at hq
    match j, hq with
    | 0, hq => cases hq; exact f0
    | 1, hq => cases hq; exact f1
    | 2, hq => cases hq; exact f2
    | 3, hq => cases hq; exact f3
    | 4, hq => cases hq; exact f4
    | j + 5, hq => simp [g_ty] at hq
  have hR : Ro G s s.heap := by rw [hG]; exact ⟨hX, ht2, hZ, hbl, htl⟩
  have hP : Hp G hE s.heap := by
    refine ⟨fun k q hk => ?_, fun k hk => ?_, by rw [hG]; rfl⟩
    · have : (wl G hE) = [] := rfl
      rw [this] at hk
      simp at hk
    · have : (hE (k + 2)).1 = 100 := by simp [hE]
      omega
  have hl := lv_entry ([.ref b]) (n := 4) (Nat.le_of_ble_eq_true rfl)
  rw [lg_entry_eq]
  generalize (lg_sl ([.ref b]) ++ List.replicate (4 - (lg_sl ([.ref b])).length) Slot.unset).toArray = ls at hl ⊢
  have hl2 : lv_has ls 4 (lq G 0 [some (.ref 0)]) := by rw [hG]; exact hl
  have hgl : g_l G = l := by rw [hG]; rfl
  have hgb : g_b G = s.heap.size := by rw [hG]; rfl
  have main := hgo G (by rw [hG]; exact hL) p e s m #[Value.ref b] below meth c s.heap [] ls ⟨hx, hb, hr, hml, hown, fun w hw => hts w (tb_of hw), hlocks, fun hh => absurd hh (by decide +kernel), hK, hR, by rw [hgb]; exact Nat.le_refl _⟩ (Nat.zero_le _) (Nat.zero_le _) hP va_S.rf hl2
  rw [hgl] at main
  intro T hT X
  obtain ⟨t2, k1, o, k2, k3, ⟨⟨r, h', e1, e2, e3⟩, hF⟩, L2, hFr, hLs⟩ := main T hT X
  refine ⟨t2, k1, o, k2, k3, ?_, ?_⟩
  · rw [e1, e2]
    rfl
  · refine ⟨hFr.1, hFr.2.1, hFr.2.2.weaken (fun y hy hlt => ?_) (Nat.le_refl _) (Nat.le_refl _)⟩
    have := hLs y hy
    rw [g_A, hgb] at this
    exact absurd hlt (Nat.not_lt.mpr this)
