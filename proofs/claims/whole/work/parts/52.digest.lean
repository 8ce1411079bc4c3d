/-! digest: both sides -/
def dgf (f : Nat → Int32) : Nat → Nat → Int64 → Int64
  | 0, _, y => y
  | m + 1, i, y => dgf f m (i + 1) (31 * y + (f i).toInt64)
theorem dgf_cg {f g : Nat → Int32} : ∀ (m i : Nat) (y : Int64), (∀ j, i ≤ j → j < i + m → f j = g j) → dgf f m i y = dgf g m i y
  | 0, _, _, _ => rfl
  | m + 1, i, y, h => by
    show dgf f m (i + 1) (31 * y + (f i).toInt64) = dgf g m (i + 1) (31 * y + (g i).toInt64)
    rw [h i (Nat.le_refl _) (by omega)]
    exact dgf_cg m (i + 1) _ (fun j h1 h2 => h j (by omega) (by omega))
/-- the digest of counts, of leads and of letters -/
def a_dig (k n a e w : Int32) (N : Nat) (T : Nat → Nat) (rl : Nat → Int32) : Int64 :=
  let y := dgf (fun w => nI (T w)) N 0 (dgf (fun i => a_count k n a e w 0 (nI i)) 5 0 17)
  if w = -1 then y else dgf rl N 0 y
section DG
variable {G : gx} {k n s : Nat} {F T : Nat → Nat} {f l e s1 s2 c s3 : Int32} {pw ff l0 : Nat → Int32}
theorem a_cl {k n a e w l : Int32} {i : Nat} (hi : i < 5) : a_count k n a e w l (nI i) = a_count k n a e w 0 (nI i) := by
  match i, hi with
  | 0, _ => rfl
  | 1, _ => rfl
  | 2, _ => rfl
  | 3, _ => rfl
  | 4, _ => rfl
theorem X_digest {h : ah} {kd fm : Int32} {rl : Nat → Int32} (ok : okW k n) (hF : okF k F) (hs : s < k) (g2 : h 2 = cX f l) (g3 : h 3 = cW k n) (g4 : h 4 = aI 15 pw) (hp : isP k n pw) (g9 : h 9 = cR (nI s) e s1 s2 c s3) (g10 : h 10 = aI 14 ff) (hff : isF F ff) (g13 : h 13 = aI 20000 l0) (hL : Lst k n s F T s1 l0) (g17 : h 17 = cO kd fm) (g18 : h 18 = aB 20000 rl) : Ct G mX7_digest 2 0 0 [.ref 2] h (fun r h2 => r = some (.long (a_dig (nI k) (nI n) (nI (k ^ n)) e kd (k ^ n) T rl)) ∧ h2 9 = cR (nI s) e 1 s2 c s3 ∧ (∃ l2, h2 13 = aI 20000 l2 ∧ ∀ w, w < k ^ n → l2 w = nI (T w)) ∧ Fr [9, 13] h h2) := by
  have hN := ok.le (Nat.le_refl n)
  generalize hQ : (fun (r : Option Value) (h2 : ah) => r = some (.long (a_dig (nI k) (nI n) (nI (k ^ n)) e kd (k ^ n) T rl)) ∧ h2 9 = cR (nI s) e 1 s2 c s3 ∧ (∃ l2, h2 13 = aI 20000 l2 ∧ ∀ w, w < k ^ n → l2 w = nI (T w)) ∧ Fr [9, 13] h h2) = Q
  have first : ∀ (y : Int64), y = dgf (fun i => a_count (nI k) (nI n) (nI (k ^ n)) e kd 0 (nI i)) 5 0 17 → V G mX7_digest (b0 2) 34 [some (.ref 2), some (.long y), none, some (.int 5)] [.ref 9] h Q := by
    intro y hy
    refine cX7_digest_34 (k := 7) (C_leads ok hF hs g3 g4 hp g9 g10 hff g13 hL) g9 ⟨by decide, by decide⟩ (Nat.le_of_ble_eq_true rfl) ⟨Nat.le_refl _, Nat.le_refl _⟩ (fun r h2 e => ?_)
    obtain ⟨rfl, k9, ⟨l2, k13, kl⟩, kf⟩ := e
    have k2 := (kf 2 (by decide)).trans g2
    have k3 := (kf 3 (by decide)).trans g3
    have k17 := (kf 17 (by decide)).trans g17
    have k18 := (kf 18 (by decide)).trans g18
    refine tX7_digest_37 ?_
    have third : ∀ m i y2, i + m = k ^ n → ¬ kd = -1 → dgf rl m i y2 = a_dig (nI k) (nI n) (nI (k ^ n)) e kd (k ^ n) T rl → V G mX7_digest (b0 2) 84 [some (.ref 2), some (.long y2), none, some (.ref 13), some (.int (nI i))] [] h2 Q := by
      intro m
      induction m with
      | zero =>
        intro i y2 hi hk hd
        refine tX7_digest_84 k2 k3 k17 k18 (fun _ => ?_) (fun e => absurd (nI_le (by omega) (by omega)) e) (fun e => absurd (nI_le (by omega) (by omega)) e)
        rw [← hQ, ← hd]
        exact ⟨rfl, k9, ⟨l2, k13, kl⟩, kf⟩
      | succ m ih =>
        intro i y2 hi hk hd
        refine tX7_digest_84 k2 k3 k17 k18 (fun e => absurd e (nI_ge (by omega) (by omega))) (fun _ => vp_in_nI (by omega) (by decide)) (fun _ => ?_)
        rw [nI_1, nI_clamp (by omega)]
        exact ih (i + 1) _ (by omega) hk hd
    have second : ∀ m i y2, i + m = k ^ n → dgf (fun w => nI (T w)) m i y2 = dgf (fun w => nI (T w)) (k ^ n) 0 y → V G mX7_digest (b0 2) 41 [some (.ref 2), some (.long y2), none, some (.ref 13), some (.int (nI i))] [] h2 Q := by
      intro m
      induction m with
      | zero =>
        intro i y2 hi hd
        have hd2 : y2 = dgf (fun w => nI (T w)) (k ^ n) 0 y := hd
        refine tX7_digest_41 k2 k3 k13 (fun _ => ?_) (fun e => absurd (nI_le (by omega) (by omega)) e) (fun e => absurd (nI_le (by omega) (by omega)) e)
        refine cX7_digest_75 (k := 15) (C_isThere k17 (d := 0)) k17 ⟨by decide, by decide⟩ (Nat.le_of_ble_eq_true rfl) ⟨Nat.le_refl _, Nat.le_refl _⟩ (fun r h3 e => ?_)
        obtain ⟨rfl, e⟩ := e; replace e := e.symm; subst e
        refine tX7_digest_78 (fun e => ?_) (fun e => ?_)
        · have hk : kd = -1 := Decidable.not_not.mp (fun q => by rw [if_neg q] at e; exact absurd e (by decide))
          rw [← hQ]
          refine ⟨?_, k9, ⟨l2, k13, kl⟩, kf⟩
          rw [a_dig, if_pos hk, hd2, hy]
        · have hk : ¬ kd = -1 := fun q => e (by rw [if_pos q])
          refine third (k ^ n) 0 y2 (by omega) hk ?_
          rw [a_dig, if_neg hk, hd2, hy]
      | succ m ih =>
        intro i y2 hi hd
        refine tX7_digest_41 k2 k3 k13 (fun e => absurd e (nI_ge (by omega) (by omega))) (fun _ => vp_in_nI (by omega) (by decide)) (fun _ => ?_)
        rw [nI_1, nI_clamp (by omega), kl i (by omega)]
        exact ih (i + 1) _ (by omega) hd
    exact second (k ^ n) 0 y (by omega) rfl
  have zero : ∀ m i y2, i + m = 5 → dgf (fun i => a_count (nI k) (nI n) (nI (k ^ n)) e kd 0 (nI i)) m i y2 = dgf (fun i => a_count (nI k) (nI n) (nI (k ^ n)) e kd 0 (nI i)) 5 0 17 → V G mX7_digest (b0 2) 6 [some (.ref 2), some (.long y2), none, some (.int (nI i))] [] h Q := by
    intro m
    induction m with
    | zero =>
      intro i y2 hi hd
      refine tX7_digest_6 g2 (fun _ => ?_) (fun e => absurd (nI_le (a := 5) (by omega) (by omega)) e)
      rw [show i = 5 by omega]
      exact first y2 hd
    | succ m ih =>
      intro i y2 hi hd
      refine tX7_digest_6 g2 (fun e => absurd e (nI_ge (b := 5) (by omega) (by omega))) (fun _ => ?_)
      refine cX7_digest_18 (k := 0) (X_count g2 g3 g9 g17 (nI i) (d := 0)) g2 ⟨by decide, by decide⟩ (Nat.le_of_ble_eq_true rfl) ⟨Nat.le_refl _, Nat.le_refl _⟩ (fun r h2 e => ?_)
      obtain ⟨rfl, e⟩ := e; replace e := e.symm; subst e
      refine tX7_digest_21 ?_
      rw [nI_1, a_cl (by omega)]
      exact ih (i + 1) _ (by omega) hd
  refine Ct_of (by decide +kernel) (Nat.le_of_ble_eq_true rfl) (tX7_digest_0 ?_)
  exact zero 5 0 17 rfl rfl
end DG
section MDG
variable {G : gx} {h : ah} {k n : Nat} {s mx mc mw ml mf mp mg : Int32} {T : Nat → Nat} {tt rl : Nat → Int32}
theorem M_digest (ok : okW k n) (g42 : h 42 = cM (nI k) (nI n) (nI (k ^ n)) s mx mc mw ml mf mp mg) (g47 : h 47 = aI 20000 tt) (htt : ∀ w, w < k ^ n → tt w = nI (T w)) (g53 : h 53 = aI 20000 rl) : Ct G mX8_digest 1 0 0 [.ref 42] h (Rv (.long (a_dig (nI k) (nI n) (nI (k ^ n)) mx mw (k ^ n) T rl)) h) := by
  have hN := ok.le (Nat.le_refl n)
  have third : ∀ m i y2, i + m = k ^ n → ¬ mw = -1 → dgf rl m i y2 = a_dig (nI k) (nI n) (nI (k ^ n)) mx mw (k ^ n) T rl → V G mX8_digest (b0 1) 62 [some (.ref 42), some (.long y2), none, some (.int (nI i))] [] h (Rv (.long (a_dig (nI k) (nI n) (nI (k ^ n)) mx mw (k ^ n) T rl)) h) := by
    intro m
    induction m with
    | zero =>
      intro i y2 hi hk hd
      refine tX8_digest_62 g42 g53 (fun _ => ?_) (fun e => absurd (nI_le (by omega) (by omega)) e) (fun e => absurd (nI_le (by omega) (by omega)) e) (fun e => absurd (nI_le (by omega) (by omega)) e)
      rw [← hd]
      exact ⟨rfl, rfl⟩
    | succ m ih =>
      intro i y2 hi hk hd
      refine tX8_digest_62 g42 g53 (fun e => absurd e (nI_ge (by omega) (by omega))) (fun _ e => absurd e hk) (fun _ _ => vp_in_nI (by omega) (by decide)) (fun _ _ => ?_)
      rw [nI_1, nI_clamp (by omega)]
      exact ih (i + 1) _ (by omega) hk hd
  have second : ∀ m i y2, i + m = k ^ n → dgf (fun w => nI (T w)) m i y2 = dgf (fun w => nI (T w)) (k ^ n) 0 (dgf (fun i => a_count (nI k) (nI n) (nI (k ^ n)) mx mw 0 (nI i)) 5 0 17) → V G mX8_digest (b0 1) 32 [some (.ref 42), some (.long y2), none, some (.int (nI i))] [] h (Rv (.long (a_dig (nI k) (nI n) (nI (k ^ n)) mx mw (k ^ n) T rl)) h) := by
    intro m
    induction m with
    | zero =>
      intro i y2 hi hd
      have hd2 : y2 = dgf (fun w => nI (T w)) (k ^ n) 0 (dgf (fun i => a_count (nI k) (nI n) (nI (k ^ n)) mx mw 0 (nI i)) 5 0 17) := hd
      refine tX8_digest_32 g42 g47 (fun _ => ?_) (fun e => absurd (nI_le (by omega) (by omega)) e) (fun e => absurd (nI_le (by omega) (by omega)) e)
      by_cases hk : mw = -1
      · refine tX8_digest_62 g42 g53 (fun e => absurd e (nI_ge (a := 0) (ok.pp n) (by omega))) (fun _ _ => ⟨?_, rfl⟩) (fun _ e => absurd hk e) (fun _ e => absurd hk e)
        rw [a_dig, if_pos hk, hd2]
      · exact third (k ^ n) 0 y2 (by omega) hk (by rw [a_dig, if_neg hk, hd2])
    | succ m ih =>
      intro i y2 hi hd
      refine tX8_digest_32 g42 g47 (fun e => absurd e (nI_ge (by omega) (by omega))) (fun _ => vp_in_nI (by omega) (by decide)) (fun _ => ?_)
      rw [nI_1, nI_clamp (by omega), htt i (by omega)]
      exact ih (i + 1) _ (by omega) hd
  have zero : ∀ m i y2, i + m = 5 → dgf (fun i => a_count (nI k) (nI n) (nI (k ^ n)) mx mw 0 (nI i)) m i y2 = dgf (fun i => a_count (nI k) (nI n) (nI (k ^ n)) mx mw 0 (nI i)) 5 0 17 → V G mX8_digest (b0 1) 6 [some (.ref 42), some (.long y2), none, some (.int (nI i))] [] h (Rv (.long (a_dig (nI k) (nI n) (nI (k ^ n)) mx mw (k ^ n) T rl)) h) := by
    intro m
    induction m with
    | zero =>
      intro i y2 hi hd
      refine tX8_digest_6 (fun _ => ?_) (fun e => absurd (nI_le (a := 5) (by omega) (by omega)) e)
      exact second (k ^ n) 0 y2 (by omega) (by rw [← hd]; rfl)
    | succ m ih =>
      intro i y2 hi hd
      refine tX8_digest_6 (fun e => absurd e (nI_ge (b := 5) (by omega) (by omega))) (fun _ => ?_)
      refine cX8_digest_18 (k := 40) (M_count g42 (nI i) (d := 0)) g42 ⟨by decide, by decide⟩ (Nat.le_of_ble_eq_true rfl) ⟨Nat.le_refl _, Nat.le_refl _⟩ (fun r h2 e => ?_)
      obtain ⟨rfl, e⟩ := e; replace e := e.symm; subst e
      refine tX8_digest_21 ?_
      rw [nI_1, a_cl (by omega)]
      exact ih (i + 1) _ (by omega) hd
  refine Ct_of (by decide +kernel) (Nat.le_of_ble_eq_true rfl) (tX8_digest_0 ?_)
  exact zero 5 0 17 rfl rfl
end MDG
