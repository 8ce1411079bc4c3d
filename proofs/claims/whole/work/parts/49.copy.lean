/-! copy: both sides -/
theorem kn_acpy : Cond.native arraycopyName ∈ gw := tb_in (List.mem_of_getElem? (i := 667) (by decide +kernel)) rfl
theorem kt_acpy : Cond.static arraycopyName ∈ gw := tb_in (List.mem_of_getElem? (i := 666) (by decide +kernel)) rfl
theorem kj_sys : Cond.initialized "java/lang/System" ∈ gw := tb_in (List.mem_of_getElem? (i := 12) (by decide +kernel)) rfl
theorem tX7_copy_11b {G : gx} {b : bg} {h : ah} {Q : Option Value → ah → Prop} {x1 x2 x3 x4 x5 s0 : Int32} {u1 u2 : Int32} {utape : Nat → Option Nat} {ta tc : Nat} (g2 : h 2 = cX u1 u2) (g23 : h 23 = (4, .inr (4, .inr (.inr utape)))) (q1 : (¬ s0 = (0 : Int32)) → vp_in x1 4) (q2 : (¬ s0 = (0 : Int32)) → utape x1.toNatClampNeg = some (ta + 2)) (q3 : (¬ s0 = (0 : Int32)) → vp_in x3 4) (q4 : (¬ s0 = (0 : Int32)) → utape x3.toNatClampNeg = some (tc + 2)) (q5 : (¬ s0 = (0 : Int32)) → V G mX7_copy b 35 [some (.ref 2), some (.int x1), some (.int x2), some (.int x3), some (.int x4), some (.int x5), some (.ref (ta + 2)), some (.ref (tc + 2))] [.ref (ta + 2)] h Q) (q6 : (s0 = (0 : Int32)) → Q (some (.int (-2 : Int32))) h) : V G mX7_copy b 11 [some (.ref 2), some (.int x1), some (.int x2), some (.int x3), some (.int x4), some (.int x5)] [.int s0] h Q := by
  refine V_if_ne (t := 17) dX7_copy_11 (by decide) (fun z1 => ?_) (fun z1 => ?_)
  ·
    refine V_aload_n dX7_copy_17 rfl rfl ?_
    refine V_get (ci := 7) (j := 4) (C0 := RX7) (T := TX7) (N := 9) dX7_copy_18 rfl g2 (by decide) (by decide) kf_X7_41 rfl ?_
    refine V_iload_n dX7_copy_21 rfl rfl ?_
    refine V_aald dX7_copy_22 g23 (q1 z1) (q2 z1) ?_
    refine V_astore dX7_copy_23 (Nat.le_of_ble_eq_true rfl) ?_
    refine V_aload_n dX7_copy_25 rfl rfl ?_
    refine V_get (ci := 7) (j := 4) (C0 := RX7) (T := TX7) (N := 9) dX7_copy_26 rfl g2 (by decide) (by decide) kf_X7_41 rfl ?_
    refine V_iload_n dX7_copy_29 rfl rfl ?_
    refine V_aald dX7_copy_30 g23 (q3 z1) (q4 z1) ?_
    refine V_astore dX7_copy_31 (Nat.le_of_ble_eq_true rfl) ?_
    refine V_aload dX7_copy_33 rfl ?_
    exact V_sub (by exact (And.intro rfl (And.intro rfl (And.intro rfl (And.intro rfl (And.intro rfl (And.intro rfl (And.intro rfl (And.intro rfl True.intro))))))))) (q5 z1)
  ·
    refine V_bipush dX7_copy_14 bp_m2 ?_
    exact V_iret dX7_copy_16 rfl (q6 z1)
theorem tX7_copy_46b {G : gx} {b : bg} {h : ah} {Q : Option Value → ah → Prop} {x1 x2 x3 x4 x5 s0 : Int32} {p6 p7 i1 b1 i2 b2 : Nat} {f1 l1 f2 l2 : Int32} (gp62 : h (p6 + 2) = cT i1 b1 f1 l1) (gp72 : h (p7 + 2) = cT i2 b2 f2 l2) (q1 : (s0 = (0 : Int32)) → (f1 = f2) → V G mX7_copy b 79 [some (.ref 2), some (.int x1), some (.int x2), some (.int x3), some (.int x4), some (.int x5), some (.ref (p6 + 2)), some (.ref (p7 + 2))] [.int x5, .int x2, .ref (p6 + 2)] h Q) (q2 : (s0 = (0 : Int32)) → (¬ f1 = f2) → V G mX7_copy b 70 [some (.ref 2), some (.int x1), some (.int x2), some (.int x3), some (.int x4), some (.int x5), some (.ref (p6 + 2)), some (.ref (p7 + 2))] [.int (4 : Int32), .ref 2] h Q) (q3 : (¬ s0 = (0 : Int32)) → V G mX7_copy b 51 [some (.ref 2), some (.int x1), some (.int x2), some (.int x3), some (.int x4), some (.int x5), some (.ref (p6 + 2)), some (.ref (p7 + 2))] [.int (1 : Int32), .ref 2] h Q) : V G mX7_copy b 46 [some (.ref 2), some (.int x1), some (.int x2), some (.int x3), some (.int x4), some (.int x5), some (.ref (p6 + 2)), some (.ref (p7 + 2))] [.int s0] h Q := by
  refine V_if_eq (t := 55) dX7_copy_46 (by decide) (fun z1 => ?_) (fun z1 => ?_)
  ·
    refine V_aload dX7_copy_55 rfl ?_
    refine V_getN (ci := 5) (j := 2) (C0 := RX5) (T := TX5) (N := 5) dX7_copy_57 rfl gp62 (by decide) (by decide) kf_X7_232 rfl ?_
    refine V_aload dX7_copy_60 rfl ?_
    refine V_getN (ci := 5) (j := 2) (C0 := RX5) (T := TX5) (N := 5) dX7_copy_62 rfl gp72 (by decide) (by decide) kf_X7_232 rfl ?_
    refine V_icmp_eq (t := 74) dX7_copy_65 (by decide) (fun z2 => ?_) (fun z2 => ?_)
    ·
      refine V_aload dX7_copy_74 rfl ?_
      refine V_iload_n dX7_copy_76 rfl rfl ?_
      refine V_iload dX7_copy_77 rfl ?_
      exact V_sub (by exact (And.intro rfl (And.intro rfl (And.intro rfl (And.intro rfl (And.intro rfl (And.intro rfl (And.intro rfl (And.intro rfl True.intro))))))))) (q1 z1 z2)
    ·
      refine V_aload_n dX7_copy_68 rfl rfl ?_
      refine V_iconst dX7_copy_69 ic_4 ?_
      exact V_sub (by exact (And.intro rfl (And.intro rfl (And.intro rfl (And.intro rfl (And.intro rfl (And.intro rfl (And.intro rfl (And.intro rfl True.intro))))))))) (q2 z1 z2)
  ·
    refine V_aload_n dX7_copy_49 rfl rfl ?_
    refine V_iconst dX7_copy_50 ic_1 ?_
    exact V_sub (by exact (And.intro rfl (And.intro rfl (And.intro rfl (And.intro rfl (And.intro rfl (And.intro rfl (And.intro rfl (And.intro rfl True.intro))))))))) (q3 z1)
theorem tX7_copy_94b {G : gx} {b : bg} {h : ah} {Q : Option Value → ah → Prop} {x1 x2 x3 x4 x5 s0 : Int32} {p6 p7 i1 b1 i2 b2 : Nat} {f1 l1 f2 l2 : Int32} (gp62 : h (p6 + 2) = cT i1 b1 f1 l1) (gp72 : h (p7 + 2) = cT i2 b2 f2 l2) (q1 : (¬ s0 = (0 : Int32)) → V G mX7_copy b 118 [some (.ref 2), some (.int x1), some (.int x2), some (.int x3), some (.int x4), some (.int x5), some (.ref (p6 + 2)), some (.ref (p7 + 2))] [.int x5, .int x4, .ref (i2 + 2), .int x2, .ref (i1 + 2)] h Q) (q2 : (s0 = (0 : Int32)) → V G mX7_copy b 99 [some (.ref 2), some (.int x1), some (.int x2), some (.int x3), some (.int x4), some (.int x5), some (.ref (p6 + 2)), some (.ref (p7 + 2))] [.int (2 : Int32), .ref 2] h Q) : V G mX7_copy b 94 [some (.ref 2), some (.int x1), some (.int x2), some (.int x3), some (.int x4), some (.int x5), some (.ref (p6 + 2)), some (.ref (p7 + 2))] [.int s0] h Q := by
  refine V_if_ne (t := 103) dX7_copy_94 (by decide) (fun z1 => ?_) (fun z1 => ?_)
  ·
    refine V_aload dX7_copy_103 rfl ?_
    refine V_getN (ci := 5) (j := 1) (C0 := RX5) (T := TX5) (N := 5) dX7_copy_105 rfl gp62 (by decide) (by decide) kf_X7_223 rfl ?_
    refine V_iload_n dX7_copy_108 rfl rfl ?_
    refine V_aload dX7_copy_109 rfl ?_
    refine V_getN (ci := 5) (j := 1) (C0 := RX5) (T := TX5) (N := 5) dX7_copy_111 rfl gp72 (by decide) (by decide) kf_X7_223 rfl ?_
    refine V_iload dX7_copy_114 rfl ?_
    refine V_iload dX7_copy_116 rfl ?_
    exact V_sub (by exact (And.intro rfl (And.intro rfl (And.intro rfl (And.intro rfl (And.intro rfl (And.intro rfl (And.intro rfl (And.intro rfl True.intro))))))))) (q1 z1)
  ·
    refine V_aload_n dX7_copy_97 rfl rfl ?_
    refine V_iconst dX7_copy_98 ic_2 ?_
    exact V_sub (by exact (And.intro rfl (And.intro rfl (And.intro rfl (And.intro rfl (And.intro rfl (And.intro rfl (And.intro rfl (And.intro rfl True.intro))))))))) (q2 z1)
theorem wr_cpy (f g : Nat → Int32) (sp dp n : Nat) : va_cpy f g sp dp n = wr (fun j => f (sp + j)) g dp n := rfl
section CP
variable {G : gx} {h : ah} {f l : Int32} {tp : Nat → Option Nat}
theorem X_copy_no (g2 : h 2 = cX f l) (g23 : h 23 = (4, .inr (4, .inr (.inr tp)))) {x1 x2 x3 x4 x5 : Int32} (hb : (x1 < 0 ∨ 4 ≤ x1) ∨ (x3 < 0 ∨ 4 ≤ x3)) : Ct G mX7_copy 2 0 0 [.ref 2, .int x1, .int x2, .int x3, .int x4, .int x5] h (Rv (.int (-2)) h) := by
  refine Ct_of (by decide +kernel) (Nat.le_of_ble_eq_true rfl) (tX7_copy_0 ?_)
  refine cX7_copy_1 (C_isTape (d := 0) _) ⟨by decide, by decide⟩ (Nat.le_of_ble_eq_true rfl) ⟨Nat.le_refl _, Nat.le_refl _⟩ (fun r h2 e => ?_)
  obtain ⟨rfl, e⟩ := e; replace e := e.symm; subst e
  refine tX7_copy_4 (fun _ => ⟨rfl, rfl⟩) (fun e1 => ?_)
  refine cX7_copy_8 (C_isTape (d := 0) _) ⟨by decide, by decide⟩ (Nat.le_of_ble_eq_true rfl) ⟨Nat.le_refl _, Nat.le_refl _⟩ (fun r h3 e => ?_)
  obtain ⟨rfl, e⟩ := e; replace e := e.symm; subst e
  have hx : x3 < 0 ∨ 4 ≤ x3 := hb.resolve_left (fun q => e1 ((z01 _).mpr q))
  exact tX7_copy_11b (ta := 0) (tc := 0) g2 g23 (fun e => absurd ((z01 _).mpr hx) e) (fun e => absurd ((z01 _).mpr hx) e) (fun e => absurd ((z01 _).mpr hx) e) (fun e => absurd ((z01 _).mpr hx) e) (fun e => absurd ((z01 _).mpr hx) e) (fun _ => ⟨rfl, rfl⟩)
/-- copy's end: what is found, or 0 -/
def fc (f1 f2 : Int32) (L1 L2 : Nat) (x2 x4 x5 : Int32) : Int32 := if f1 = -1 ∨ f2 = -1 then 1 else if ¬ f1 = f2 then 4 else if wi L1 x2 x5 ∨ wi L2 x4 x5 then 2 else 0
theorem X_copy {t u L1 L2 : Nat} {f1 f2 x2 x4 x5 : Int32} {it1 it2 : Nat → Int32} (g2 : h 2 = cX f l) (g23 : h 23 = (4, .inr (4, .inr (.inr tp)))) (htp : isTp tp) (ht : t < 4) (hu : u < 4) (hL1 : L1 ≤ 200) (hL2 : L2 ≤ 200) (gt : h (3 * t + 22 + 2) = cTt t f1 (nI L1)) (gi : h (3 * t + 23 + 2) = aI 200 it1) (gu : h (3 * u + 22 + 2) = cTt u f2 (nI L2)) (gj : h (3 * u + 23 + 2) = aI 200 it2) : Ct G mX7_copy 2 0 0 [.ref 2, .int (nI t), .int x2, .int (nI u), .int x4, .int x5] h (fun r h2 => if fc f1 f2 L1 L2 x2 x4 x5 = 0 then r = some (.int 1) ∧ h2 = va_up h (3 * u + 23 + 2) (aI 200 (wr (fun j => it1 (x2.toNatClampNeg + j)) it2 x4.toNatClampNeg x5.toNatClampNeg)) else r = some (.int (-10 - fc f1 f2 L1 L2 x2 x4 x5)) ∧ h2 = va_up h 2 (cX f (fc f1 f2 L1 L2 x2 x4 x5))) := by
  refine Ct_of (by decide +kernel) (Nat.le_of_ble_eq_true rfl) (tX7_copy_0 ?_)
  refine cX7_copy_1 (C_isTape (d := 0) _) ⟨by decide, by decide⟩ (Nat.le_of_ble_eq_true rfl) ⟨Nat.le_refl _, Nat.le_refl _⟩ (fun r h2 e => ?_)
  obtain ⟨rfl, e⟩ := e; replace e := e.symm; subst e
  refine tX7_copy_4 (fun e => absurd ((z01 _).mp e) (t4_no ht)) (fun e1 => ?_)
  refine cX7_copy_8 (C_isTape (d := 0) _) ⟨by decide, by decide⟩ (Nat.le_of_ble_eq_true rfl) ⟨Nat.le_refl _, Nat.le_refl _⟩ (fun r h3 e => ?_)
  obtain ⟨rfl, e⟩ := e; replace e := e.symm; subst e
  refine tX7_copy_11b (ta := 3 * t + 22) (tc := 3 * u + 22) g2 g23 (fun _ => vp_in_nI ht (by decide)) (fun _ => by rw [nI_clamp (by omega)]; exact htp t ht) (fun _ => vp_in_nI hu (by decide)) (fun _ => by rw [nI_clamp (by omega)]; exact htp u hu) (fun _ => ?_) (fun e => absurd ((z01 _).mp e) (t4_no hu))
  have fin : ∀ v : Int32, fc f1 f2 L1 L2 x2 x4 x5 = v → ¬ v = 0 → ∀ (h4 : ah), h4 = va_up h 2 (cX f v) → (if fc f1 f2 L1 L2 x2 x4 x5 = 0 then some (.int (-10 - v)) = some (Value.int 1) ∧ h4 = va_up h (3 * u + 23 + 2) (aI 200 (wr (fun j => it1 (x2.toNatClampNeg + j)) it2 x4.toNatClampNeg x5.toNatClampNeg)) else some (Value.int (-10 - v)) = some (Value.int (-10 - fc f1 f2 L1 L2 x2 x4 x5)) ∧ h4 = va_up h 2 (cX f (fc f1 f2 L1 L2 x2 x4 x5))) := by
    intro v hv hv0 h4 hh
    rw [hv, if_neg hv0]
    exact ⟨rfl, hh⟩
  refine cX7_copy_35 (C_isLost gt (d := 0)) gt ⟨by decide, by decide⟩ (Nat.le_of_ble_eq_true rfl) ⟨Nat.le_refl _, Nat.le_refl _⟩ (fun r h3 e => ?_)
  obtain ⟨rfl, e⟩ := e; replace e := e.symm; subst e
  refine tX7_copy_38 (fun e2 => ?_) (fun e2 => ?_)
  · have hfm : f1 = -1 := Decidable.not_not.mp (fun q => e2 (by rw [if_neg q]))
    refine cX7_copy_51 (k := 0) (C_finding g2 _ (d := 0)) g2 ⟨by decide, by decide⟩ (Nat.le_of_ble_eq_true rfl) ⟨Nat.le_refl _, Nat.le_refl _⟩ (fun r h5 e3 => ?_)
    obtain ⟨rfl, e3⟩ := e3; replace e3 := e3.symm; subst e3
    exact tX7_copy_54 (fin 1 (by rw [fc, if_pos (Or.inl hfm)]) (by decide) _ rfl)
  · have hf1 : ¬ f1 = -1 := fun q => by rw [if_pos q] at e2; exact absurd e2 (by decide)
    refine cX7_copy_43 (C_isLost gu (d := 0)) gu ⟨by decide, by decide⟩ (Nat.le_of_ble_eq_true rfl) ⟨Nat.le_refl _, Nat.le_refl _⟩ (fun r h5 e => ?_)
    obtain ⟨rfl, e⟩ := e; replace e := e.symm; subst e
    refine tX7_copy_46b gt gu (fun e3 e4 => ?_) (fun e3 e4 => ?_) (fun e3 => ?_)
    · have hf2 : ¬ f2 = -1 := fun q => by rw [if_pos q] at e3; exact absurd e3 (by decide)
      refine cX7_copy_79 (C_hasItems gt x2 x5 (d := 0)) gt ⟨by decide, by decide⟩ (Nat.le_of_ble_eq_true rfl) ⟨Nat.le_refl _, Nat.le_refl _⟩ (fun r h6 e => ?_)
      obtain ⟨rfl, e⟩ := e; replace e := e.symm; subst e
      refine tX7_copy_82 (fun e5 => ?_) (fun e5 => ?_)
      · refine cX7_copy_99 (k := 0) (C_finding g2 _ (d := 0)) g2 ⟨by decide, by decide⟩ (Nat.le_of_ble_eq_true rfl) ⟨Nat.le_refl _, Nat.le_refl _⟩ (fun r h7 e6 => ?_)
        obtain ⟨rfl, e6⟩ := e6; replace e6 := e6.symm; subst e6
        exact tX7_copy_102 (fin 2 (by rw [fc, if_neg (fun q => q.elim hf1 hf2), if_neg (fun q => q e4), if_pos (Or.inl ((z01 _).mp e5))]) (by decide) _ rfl)
      · refine cX7_copy_91 (C_hasItems gu x4 x5 (d := 0)) gu ⟨by decide, by decide⟩ (Nat.le_of_ble_eq_true rfl) ⟨Nat.le_refl _, Nat.le_refl _⟩ (fun r h7 e => ?_)
        obtain ⟨rfl, e⟩ := e; replace e := e.symm; subst e
        refine tX7_copy_94b gt gu (fun e6 => ?_) (fun e6 => ?_)
        · have w1 : ¬ wi L1 x2 x5 := fun q => e5 ((z01 _).mpr q)
          have w2 : ¬ wi L2 x4 x5 := fun q => e6 ((z01 _).mpr q)
          have hf0 : fc f1 f2 L1 L2 x2 x4 x5 = 0 := by rw [fc, if_neg (fun q => q.elim hf1 hf2), if_neg (fun q => q e4), if_neg (fun q => q.elim w1 w2)]
          simp only [if_pos hf0]
          obtain ⟨i, m, him, rfl, rfl⟩ := wi_pick hL1 w1
          obtain ⟨j, m2, hjm, rfl, hmm⟩ := wi_pick hL2 w2
          have hm2 : m < 2 ^ 31 := by omega
          have hmm2 : m = m2 := (nI_eq (by omega) (by omega)).mp hmm
          subst hmm2
          refine V_acpy (k0 := 3 * t + 23) (k1 := 3 * u + 23) (n0 := 200) (n1 := 200) dX7_copy_118 km_X7_238 kn_acpy kt_acpy kj_sys gi gj (nI_pos (by omega)) (nI_pos (by omega)) (nI_pos (by omega)) (by rw [nI_clamp (by omega), nI_clamp (by omega)]; omega) (by rw [nI_clamp (by omega), nI_clamp (by omega)]; omega) ⟨by decide, by decide⟩ rfl ?_
          rw [wr_cpy]
          exact tX7_copy_121 ⟨rfl, rfl⟩
        · refine cX7_copy_99 (k := 0) (C_finding g2 _ (d := 0)) g2 ⟨by decide, by decide⟩ (Nat.le_of_ble_eq_true rfl) ⟨Nat.le_refl _, Nat.le_refl _⟩ (fun r h8 e7 => ?_)
          obtain ⟨rfl, e7⟩ := e7; replace e7 := e7.symm; subst e7
          exact tX7_copy_102 (fin 2 (by rw [fc, if_neg (fun q => q.elim hf1 hf2), if_neg (fun q => q e4), if_pos (Or.inr ((z01 _).mp e6))]) (by decide) _ rfl)
    · have hf2 : ¬ f2 = -1 := fun q => by rw [if_pos q] at e3; exact absurd e3 (by decide)
      refine cX7_copy_70 (k := 0) (C_finding g2 _ (d := 0)) g2 ⟨by decide, by decide⟩ (Nat.le_of_ble_eq_true rfl) ⟨Nat.le_refl _, Nat.le_refl _⟩ (fun r h6 e5 => ?_)
      obtain ⟨rfl, e5⟩ := e5; replace e5 := e5.symm; subst e5
      exact tX7_copy_73 (fin 4 (by rw [fc, if_neg (fun q => q.elim hf1 hf2), if_pos e4]) (by decide) _ rfl)
    · have hf2 : f2 = -1 := Decidable.not_not.mp (fun q => e3 (by rw [if_neg q]))
      refine cX7_copy_51 (k := 0) (C_finding g2 _ (d := 0)) g2 ⟨by decide, by decide⟩ (Nat.le_of_ble_eq_true rfl) ⟨Nat.le_refl _, Nat.le_refl _⟩ (fun r h6 e5 => ?_)
      obtain ⟨rfl, e5⟩ := e5; replace e5 := e5.symm; subst e5
      exact tX7_copy_54 (fin 1 (by rw [fc, if_pos (Or.inr hf2)]) (by decide) _ rfl)
end CP
section MCP
variable {G : gx} {h : ah} {k n a s mx mc mw ml mf mp mg : Int32} {fs sz it mv : Nat → Int32}
theorem M_copy_no (g42 : h 42 = cM k n a s mx mc mw ml mf mp mg) (g55 : h 55 = aI 4 fs) {x1 x2 x3 x4 x5 : Int32} (hb : (x1 < 0 ∨ 4 ≤ x1) ∨ (x3 < 0 ∨ 4 ≤ x3)) : Ct G mX8_copy 2 0 0 [.ref 42, .int x1, .int x2, .int x3, .int x4, .int x5] h (Rv (.int (-2)) h) := by
  refine Ct_of (by decide +kernel) (Nat.le_of_ble_eq_true rfl) (tX8_copy_0 ?_)
  refine cX8_copy_1 (M_isTape _) ⟨by decide, by decide⟩ (Nat.le_of_ble_eq_true rfl) ⟨Nat.le_refl _, Nat.le_refl _⟩ (fun r h2 e => ?_)
  obtain ⟨rfl, e⟩ := e; replace e := e.symm; subst e
  refine tX8_copy_4 (fun _ => ⟨rfl, rfl⟩) (fun e1 => ?_)
  refine cX8_copy_8 (M_isTape _) ⟨by decide, by decide⟩ (Nat.le_of_ble_eq_true rfl) ⟨Nat.le_refl _, Nat.le_refl _⟩ (fun r h3 e => ?_)
  obtain ⟨rfl, e⟩ := e; replace e := e.symm; subst e
  have hx : x3 < 0 ∨ 4 ≤ x3 := hb.resolve_left (fun q => e1 ((z01 _).mpr q))
  exact tX8_copy_11 g42 g55 (fun e => absurd ((z01 _).mpr hx) e) (fun e => absurd ((z01 _).mpr hx) e) (fun e => absurd ((z01 _).mpr hx) e) (fun e => absurd ((z01 _).mpr hx) e) (fun e => absurd ((z01 _).mpr hx) e) (fun e => absurd ((z01 _).mpr hx) e) (fun e => absurd ((z01 _).mpr hx) e) (fun e => absurd ((z01 _).mpr hx) e) (fun _ => ⟨rfl, rfl⟩)
theorem M_copy {t u L1 L2 : Nat} {x2 x4 x5 : Int32} (g42 : h 42 = cM k n a s mx mc mw ml mf mp mg) (g55 : h 55 = aI 4 fs) (g56 : h 56 = aI 4 sz) (g57 : h 57 = aI 800 it) (g58 : h 58 = aI 200 mv) (ht : t < 4) (hu : u < 4) (hL1 : L1 ≤ 200) (hL2 : L2 ≤ 200) (n1 : 0 ≤ fs t ↔ ¬ fs t = -1) (n2 : 0 ≤ fs u ↔ ¬ fs u = -1) (z1 : sz t = nI L1) (z2 : sz u = nI L2) : Ct G mX8_copy 2 0 0 [.ref 42, .int (nI t), .int x2, .int (nI u), .int x4, .int x5] h (fun r h2 => if fc (fs t) (fs u) L1 L2 x2 x4 x5 = 0 then r = some (.int 1) ∧ h2 57 = aI 800 (wr (fun j => it (200 * t + x2.toNatClampNeg + j)) it (200 * u + x4.toNatClampNeg) x5.toNatClampNeg) ∧ (∃ mv2, h2 58 = aI 200 mv2) ∧ Fr [57, 58] h h2 else r = some (.int (-10 - fc (fs t) (fs u) L1 L2 x2 x4 x5)) ∧ h2 = va_up h 42 (cM k n a s mx mc mw (fc (fs t) (fs u) L1 L2 x2 x4 x5) mf mp mg)) := by
  have ct : (nI t).toNatClampNeg = t := nI_clamp (by omega)
  have cu : (nI u).toNatClampNeg = u := nI_clamp (by omega)
  refine Ct_of (by decide +kernel) (Nat.le_of_ble_eq_true rfl) (tX8_copy_0 ?_)
  refine cX8_copy_1 (M_isTape _) ⟨by decide, by decide⟩ (Nat.le_of_ble_eq_true rfl) ⟨Nat.le_refl _, Nat.le_refl _⟩ (fun r h2 e => ?_)
  obtain ⟨rfl, e⟩ := e; replace e := e.symm; subst e
  refine tX8_copy_4 (fun e => absurd ((z01 _).mp e) (t4_no ht)) (fun e1 => ?_)
  refine cX8_copy_8 (M_isTape _) ⟨by decide, by decide⟩ (Nat.le_of_ble_eq_true rfl) ⟨Nat.le_refl _, Nat.le_refl _⟩ (fun r h3 e => ?_)
  obtain ⟨rfl, e⟩ := e; replace e := e.symm; subst e
  generalize hQ : (fun (r : Option Value) (hh : ah) => if fc (fs t) (fs u) L1 L2 x2 x4 x5 = 0 then r = some (.int 1) ∧ hh 57 = aI 800 (wr (fun j => it (200 * t + x2.toNatClampNeg + j)) it (200 * u + x4.toNatClampNeg) x5.toNatClampNeg) ∧ (∃ mv2, hh 58 = aI 200 mv2) ∧ Fr [57, 58] h hh else r = some (.int (-10 - fc (fs t) (fs u) L1 L2 x2 x4 x5)) ∧ hh = va_up h 42 (cM k n a s mx mc mw (fc (fs t) (fs u) L1 L2 x2 x4 x5) mf mp mg)) = Q
  have fin : ∀ v : Int32, fc (fs t) (fs u) L1 L2 x2 x4 x5 = v → ¬ v = 0 → Q (some (.int (-10 - v))) (va_up h 42 (cM k n a s mx mc mw v mf mp mg)) := by
    intro v hv hv0
    rw [← hQ]
    show if fc (fs t) (fs u) L1 L2 x2 x4 x5 = 0 then _ else _
    rw [hv, if_neg hv0]
    exact ⟨rfl, rfl⟩
  have lost : ∀ v : Int32, v = 1 → fc (fs t) (fs u) L1 L2 x2 x4 x5 = 1 → V G mX8_copy (b0 2) 37 [some (.ref 42), some (.int (nI t)), some (.int x2), some (.int (nI u)), some (.int x4), some (.int x5)] [.int v, .ref 42] h Q := by
    intro v hv hfc
    subst hv
    refine cX8_copy_37 (k := 40) (M_met g42 1 (d := 0)) g42 ⟨by decide, by decide⟩ (Nat.le_of_ble_eq_true rfl) ⟨Nat.le_refl _, Nat.le_refl _⟩ (fun r h5 e3 => ?_)
    obtain ⟨rfl, e3⟩ := e3; replace e3 := e3.symm; subst e3
    exact tX8_copy_40 (fin 1 hfc (by decide))
  refine tX8_copy_11 g42 g55 (fun _ => vp_in_nI ht (by decide)) (fun _ e => ?_) (fun _ _ => vp_in_nI hu (by decide)) (fun _ _ _ => vp_in_nI ht (by decide)) (fun _ _ _ => vp_in_nI hu (by decide)) (fun _ e2 e3 e4 => ?_) (fun _ e2 e3 e4 => ?_) (fun _ e2 e3 => ?_) (fun e => absurd ((z01 _).mp e) (t4_no hu))
  · rw [ct] at e
    exact lost 1 rfl (by rw [fc, if_pos (Or.inl (Decidable.not_not.mp (fun q => absurd (n1.mpr q) (Int32.not_le.mpr e))))])
  · rw [ct] at e2 e4
    rw [cu] at e3 e4
    have hf1 := n1.mp (Int32.not_lt.mp e2)
    have hf2 := n2.mp e3
    have two : ∀ v : Int32, v = 2 → fc (fs t) (fs u) L1 L2 x2 x4 x5 = 2 → V G mX8_copy (b0 2) 87 [some (.ref 42), some (.int (nI t)), some (.int x2), some (.int (nI u)), some (.int x4), some (.int x5)] [.int v, .ref 42] h Q := by
      intro v hv hfc
      subst hv
      refine cX8_copy_87 (k := 40) (M_met g42 2 (d := 0)) g42 ⟨by decide, by decide⟩ (Nat.le_of_ble_eq_true rfl) ⟨Nat.le_refl _, Nat.le_refl _⟩ (fun r h5 e3 => ?_)
      obtain ⟨rfl, e3⟩ := e3; replace e3 := e3.symm; subst e3
      exact tX8_copy_90 (fin 2 hfc (by decide))
    refine cX8_copy_67 (k := 40) (M_isWithin g42 g56 ht hL1 z1 (d := 0)) g42 ⟨by decide, by decide⟩ (Nat.le_of_ble_eq_true rfl) ⟨Nat.le_refl _, Nat.le_refl _⟩ (fun r h4 e => ?_)
    obtain ⟨rfl, e⟩ := e; replace e := e.symm; subst e
    refine tX8_copy_70 (fun e5 => two 2 rfl (by rw [fc, if_neg (fun q => q.elim hf1 hf2), if_neg (fun q => q e4), if_pos (Or.inl ((z01 _).mp e5))])) (fun e5 => ?_)
    refine cX8_copy_79 (k := 40) (M_isWithin g42 g56 hu hL2 z2 (d := 0)) g42 ⟨by decide, by decide⟩ (Nat.le_of_ble_eq_true rfl) ⟨Nat.le_refl _, Nat.le_refl _⟩ (fun r h5 e => ?_)
    obtain ⟨rfl, e⟩ := e; replace e := e.symm; subst e
    refine tX8_copy_82 (fun e6 => ?_) (fun e6 => two 2 rfl (by rw [fc, if_neg (fun q => q.elim hf1 hf2), if_neg (fun q => q e4), if_pos (Or.inr ((z01 _).mp e6))]))
    have w1 : ¬ wi L1 x2 x5 := fun q => e5 ((z01 _).mpr q)
    have w2 : ¬ wi L2 x4 x5 := fun q => e6 ((z01 _).mpr q)
    have hf0 : fc (fs t) (fs u) L1 L2 x2 x4 x5 = 0 := by rw [fc, if_neg (fun q => q.elim hf1 hf2), if_neg (fun q => q e4), if_neg (fun q => q.elim w1 w2)]
    obtain ⟨i, m, him, rfl, rfl⟩ := wi_pick hL1 w1
    obtain ⟨j, m2, hjm, rfl, hmm⟩ := wi_pick hL2 w2
    have hmm2 : m = m2 := (nI_eq (by omega) (by omega)).mp hmm
    subst hmm2
    have e7 : ∀ v q : Nat, (((200 : Int32) * nI v) + nI q) = nI (200 * v + q) := fun v q => ix_200
    have last : ∀ q b (mv2 : Nat → Int32) (hh : ah), b + q = m → hh 42 = cM k n a s mx mc mw ml mf mp mg → hh 57 = aI 800 (wr (fun j => it (200 * t + i + j)) it (200 * u + j) b) → hh 58 = aI 200 mv2 → (∀ c, c < m → mv2 c = it (200 * t + i + c)) → Fr [57, 58] h hh → V G mX8_copy (b0 2) 132 [some (.ref 42), some (.int (nI t)), some (.int (nI i)), some (.int (nI u)), some (.int (nI j)), some (.int (nI m)), some (.int (nI b))] [] hh Q := by
      intro q
      induction q with
      | zero =>
        intro b mv2 hh hb k42 k57 k58 km kf
        refine tX8_copy_132 k42 k58 k57 (fun _ => ?_) (fun e => absurd (nI_le (by omega) (by omega)) e) (fun e => absurd (nI_le (by omega) (by omega)) e) (fun e => absurd (nI_le (by omega) (by omega)) e)
        rw [← hQ]
        show if fc (fs t) (fs u) L1 L2 (nI i) (nI j) (nI m) = 0 then _ else _
        rw [hf0, if_pos rfl, nI_clamp (n := i) (by omega), nI_clamp (n := j) (by omega), nI_clamp (n := m) (by omega)]
        exact ⟨rfl, by rw [k57, show b = m by omega], ⟨_, k58⟩, kf⟩
      | succ q ih =>
        intro b mv2 hh hb k42 k57 k58 km kf
        refine tX8_copy_132 k42 k58 k57 (fun e => absurd e (nI_ge (by omega) (by omega))) (fun _ => vp_in_nI (by omega) (by decide)) (fun _ => by rw [e7, nI_add]; exact vp_in_nI (by omega) (by decide)) (fun _ => ?_)
        have e4 : upd (wr (fun j => it (200 * t + i + j)) it (200 * u + j) b) (200 * u + j + b) (it (200 * t + i + b)) = wr (fun j => it (200 * t + i + j)) it (200 * u + j) (b + 1) := wr_s (fun j => it (200 * t + i + j)) it (200 * u + j) b
        rw [e7, nI_add, nI_clamp (by omega), nI_clamp (by omega), km b (by omega), e4, nI_1]
        exact ih (b + 1) mv2 _ (by omega) ((up_n _ _ (by decide)).trans k42) (up_s _ _ _) ((up_n _ _ (by decide)).trans k58) km (kf.up (by decide))
    have first : ∀ q b (mv2 : Nat → Int32) (hh : ah), b + q = m → hh 42 = cM k n a s mx mc mw ml mf mp mg → hh 57 = aI 800 it → hh 58 = aI 200 mv2 → (∀ c, c < b → mv2 c = it (200 * t + i + c)) → Fr [57, 58] h hh → V G mX8_copy (b0 2) 94 [some (.ref 42), some (.int (nI t)), some (.int (nI i)), some (.int (nI u)), some (.int (nI j)), some (.int (nI m)), some (.int (nI b))] [] hh Q := by
      intro q
      induction q with
      | zero =>
        intro b mv2 hh hb k42 k57 k58 km kf
        refine tX8_copy_94 k42 k57 k58 (fun _ => ?_) (fun e => absurd (nI_le (by omega) (by omega)) e) (fun e => absurd (nI_le (by omega) (by omega)) e) (fun e => absurd (nI_le (by omega) (by omega)) e)
        exact last m 0 mv2 hh (by omega) k42 (by rw [wr_0]; exact k57) k58 (fun c hc => km c (by omega)) kf
      | succ q ih =>
        intro b mv2 hh hb k42 k57 k58 km kf
        refine tX8_copy_94 k42 k57 k58 (fun e => absurd e (nI_ge (by omega) (by omega))) (fun _ => by rw [e7, nI_add]; exact vp_in_nI (by omega) (by decide)) (fun _ => vp_in_nI (by omega) (by decide)) (fun _ => ?_)
        rw [e7, nI_add, nI_clamp (by omega), nI_clamp (by omega), nI_1]
        refine ih (b + 1) _ _ (by omega) ((up_n _ _ (by decide)).trans k42) ((up_n _ _ (by decide)).trans k57) (up_s _ _ _) (fun c hc => ?_) (kf.up (by decide))
        by_cases hcb : c = b
        · subst hcb; rw [pk_us]
        · rw [pk_un hcb]; exact km c (by omega)
    exact first m 0 mv h (by omega) g42 g57 g58 (fun c hc => absurd hc (Nat.not_lt_zero c)) Fr.rf
  · rw [ct] at e2 e4
    rw [cu] at e3 e4
    have hf1 := n1.mp (Int32.not_lt.mp e2)
    have hf2 := n2.mp e3
    refine cX8_copy_58 (k := 40) (M_met g42 4 (d := 0)) g42 ⟨by decide, by decide⟩ (Nat.le_of_ble_eq_true rfl) ⟨Nat.le_refl _, Nat.le_refl _⟩ (fun r h5 e5 => ?_)
    obtain ⟨rfl, e5⟩ := e5; replace e5 := e5.symm; subst e5
    exact tX8_copy_61 (fin 4 (by rw [fc, if_neg (fun q => q.elim hf1 hf2), if_pos e4]) (by decide))
  · rw [cu] at e3
    exact lost 1 rfl (by rw [fc, if_pos (Or.inr (Decidable.not_not.mp (fun q => e3 (n2.mpr q))))])
end MCP
