/-! THE INVARIANT of class and reference together -/
def JP (k n s : Nat) (F T : Nat → Nat) (E : Nat) : Prop := okW k n ∧ okF k F ∧ s < k ∧ okT k n T ∧ (inj (k ^ n) T ↔ rt k (F 0) = true) ∧ E ≤ 400 ∧ (0 < E → rt k (F 0) = true)
def JR (k n s : Nat) (F T : Nat → Nat) (E : Nat) (h : ah) : Prop := RG k n s F T (nI E) h ∧ RM k n T h ∧ (∃ lf, h 43 = aI 20000 lf ∧ ∀ w, w < k ^ n → lf w = nI (lo k n w)) ∧ (∃ ff, h 46 = aI 14 ff ∧ isF F ff) ∧ (∃ o1 o2, h 11 = aI 400 o1 ∧ h 12 = aI 400 o2 ∧ h 48 = aI 400 o1 ∧ h 49 = aI 400 o2 ∧ ∀ i, i < E → ∃ a b, a < k ^ n ∧ b < k ^ n ∧ a ≠ b ∧ a % k ^ (n - 1) = b % k ^ (n - 1) ∧ o1 i = nI a ∧ o2 i = nI b) ∧ (∃ g, h 16 = aI 401 g) ∧ ∃ g, h 52 = aI 20000 g
abbrev cR_ : List Nat := [3, 4, 9, 10, 11, 12, 13, 14, 15, 16, 43, 46, 47, 48, 49, 50, 51, 52]
theorem RM.fr {k n : Nat} {T : Nat → Nat} {h h2 : ah} (hm : RM k n T h) {X : List Nat} (hf : Fr X h h2) (hx : ∀ j, j ∈ [47, 50, 51] → j ∉ X) : RM k n T h2 := by
  obtain ⟨⟨tt, q1, q2⟩, ⟨sn, q3⟩, ⟨nn, q4⟩⟩ := hm
  exact ⟨⟨tt, (hf 47 (hx 47 (by decide))).trans q1, q2⟩, ⟨sn, (hf 50 (hx 50 (by decide))).trans q3⟩, ⟨nn, (hf 51 (hx 51 (by decide))).trans q4⟩⟩
theorem JR.fr {k n s E : Nat} {F T : Nat → Nat} {h h2 : ah} (hr : JR k n s F T E h) {X : List Nat} (hf : Fr X h h2) (hx : ∀ j, j ∈ cR_ → j ∉ X) : JR k n s F T E h2 := by
  obtain ⟨a1, a2, ⟨lf, a3, a4⟩, ⟨ff, a5, a6⟩, ⟨o1, o2, b1, b2, b3, b4, b5⟩, ⟨g, a7⟩, ⟨g2, a8⟩⟩ := hr
  refine ⟨a1.mono hf (fun j hj => hx j ?_), a2.fr hf (fun j hj => hx j ?_), ⟨lf, (hf 43 (hx 43 (by decide))).trans a3, a4⟩, ⟨ff, (hf 46 (hx 46 (by decide))).trans a5, a6⟩, ⟨o1, o2, (hf 11 (hx 11 (by decide))).trans b1, (hf 12 (hx 12 (by decide))).trans b2, (hf 48 (hx 48 (by decide))).trans b3, (hf 49 (hx 49 (by decide))).trans b4, b5⟩, ⟨g, (hf 16 (hx 16 (by decide))).trans a7⟩, ⟨g2, (hf 52 (hx 52 (by decide))).trans a8⟩⟩
  · exact (show ∀ j, j ∈ [3, 4, 9, 10, 13, 14, 15] → j ∈ cR_ by decide) j hj
  · exact (show ∀ j, j ∈ [47, 50, 51] → j ∈ cR_ by decide) j hj
def JO (k n : Nat) (kd : Int32) (h : ah) : Prop := (∃ fm, h 17 = cO kd fm) ∧ (∃ rl rm, h 18 = aB 20000 rl ∧ h 53 = aI 20000 rm ∧ (¬ kd = -1 → ∃ rr : Nat → Nat, ∀ j, j < k ^ n → rl j = nI (rr j) ∧ rm j = nI (rr j) ∧ rr j < k)) ∧ (∃ pl, h 19 = aI 20000 pl ∧ h 54 = aI 20000 pl) ∧ (∃ o, h 20 = aI 14 o) ∧ (∃ s, h 21 = aJ 5 s) ∧ ∃ s, h 22 = aJ 5 s
abbrev cO_ : List Nat := [17, 18, 19, 20, 21, 22, 53, 54]
theorem JO.fr {k n : Nat} {kd : Int32} {h h2 : ah} (hr : JO k n kd h) {X : List Nat} (hf : Fr X h h2) (hx : ∀ j, j ∈ cO_ → j ∉ X) : JO k n kd h2 := by
  obtain ⟨⟨fm, a1⟩, ⟨rl, rm, a2, a3, a4⟩, ⟨pl, a5, a6⟩, ⟨o, a7⟩, ⟨s, a8⟩, ⟨s2, a9⟩⟩ := hr
  exact ⟨⟨fm, (hf 17 (hx 17 (by decide))).trans a1⟩, ⟨rl, rm, (hf 18 (hx 18 (by decide))).trans a2, (hf 53 (hx 53 (by decide))).trans a3, a4⟩, ⟨pl, (hf 19 (hx 19 (by decide))).trans a5, (hf 54 (hx 54 (by decide))).trans a6⟩, ⟨o, (hf 20 (hx 20 (by decide))).trans a7⟩, ⟨s, (hf 21 (hx 21 (by decide))).trans a8⟩, ⟨s2, (hf 22 (hx 22 (by decide))).trans a9⟩⟩
/-- tape t on both sides -/
def Jt (fs sz ri : Nat → Int32) (h : ah) (t : Nat) : Prop := ∃ (L : Nat) (it bb : Nat → Int32), L ≤ 200 ∧ sz t = nI L ∧ (0 ≤ fs t ↔ ¬ fs t = -1) ∧ h (3 * t + 22 + 2) = cTt t (fs t) (nI L) ∧ h (3 * t + 23 + 2) = aI 200 it ∧ h (3 * t + 24 + 2) = aI 200 bb ∧ ∀ j, j < 200 → ri (200 * t + j) = it j
def JT (h : ah) : Prop := (∃ tp, h 23 = (4, .inr (4, .inr (.inr tp))) ∧ isTp tp) ∧ ∃ (fs sz ri mv : Nat → Int32), h 55 = aI 4 fs ∧ h 56 = aI 4 sz ∧ h 57 = aI 800 ri ∧ h 58 = aI 200 mv ∧ ∀ t, t < 4 → Jt fs sz ri h t
abbrev cT_ : List Nat := [23, 24, 25, 26, 27, 28, 29, 30, 31, 32, 33, 34, 35, 55, 56, 57, 58]
theorem Jt.fr {fs sz ri : Nat → Int32} {h h2 : ah} {t : Nat} (hr : Jt fs sz ri h t) {X : List Nat} (hf : Fr X h h2) (h1 : 3 * t + 22 + 2 ∉ X) (h3 : 3 * t + 23 + 2 ∉ X) (h4 : 3 * t + 24 + 2 ∉ X) : Jt fs sz ri h2 t := by
  obtain ⟨L, it, bb, a1, a2, a3, a4, a5, a6, a7⟩ := hr
  exact ⟨L, it, bb, a1, a2, a3, (hf _ h1).trans a4, (hf _ h3).trans a5, (hf _ h4).trans a6, a7⟩
theorem tc_in {t : Nat} (ht : t < 4) : 3 * t + 22 + 2 ∈ cT_ ∧ 3 * t + 23 + 2 ∈ cT_ ∧ 3 * t + 24 + 2 ∈ cT_ := by
  match t, ht with
  | 0, _ => decide
  | 1, _ => decide
  | 2, _ => decide
  | 3, _ => decide
theorem JT.fr {h h2 : ah} (hr : JT h) {X : List Nat} (hf : Fr X h h2) (hx : ∀ j, j ∈ cT_ → j ∉ X) : JT h2 := by
  obtain ⟨⟨tp, a1, a2⟩, fs, sz, ri, mv, b1, b2, b3, b4, b5⟩ := hr
  refine ⟨⟨tp, (hf 23 (hx 23 (by decide))).trans a1, a2⟩, fs, sz, ri, mv, (hf 55 (hx 55 (by decide))).trans b1, (hf 56 (hx 56 (by decide))).trans b2, (hf 57 (hx 57 (by decide))).trans b3, (hf 58 (hx 58 (by decide))).trans b4, fun t ht => ?_⟩
  obtain ⟨c1, c2, c3⟩ := tc_in ht
  exact (b5 t ht).fr hf (hx _ c1) (hx _ c2) (hx _ c3)
def JQ (P : Nat) (h : ah) : Prop := P ≤ 200 ∧ h 36 = (0, .inl [.ref 37, .int (nI P)]) ∧ ∃ pb, h 37 = aI 200 pb ∧ h 59 = aI 200 pb
theorem JQ.fr {P : Nat} {h h2 : ah} (hr : JQ P h) {X : List Nat} (hf : Fr X h h2) (hx : ∀ j, j ∈ [36, 37, 59] → j ∉ X) : JQ P h2 := by
  obtain ⟨a1, a2, pb, a3, a4⟩ := hr
  exact ⟨a1, (hf 36 (hx 36 (by decide))).trans a2, pb, (hf 37 (hx 37 (by decide))).trans a3, (hf 59 (hx 59 (by decide))).trans a4⟩
def JC (L : Nat) (h : ah) : Prop := L ≤ 200 ∧ ∃ (md : Nat) (nw e1 e2 to n1 n2 n3 mx : Nat → Int32), 0 < md ∧ md ≤ 5 ∧ h 38 = (1, .inl [.ref 39, .ref 40, .ref 41, .int (nI L), .int (nI md)]) ∧ h 39 = aI 201 nw ∧ h 40 = aI 201 e1 ∧ h 41 = aI 201 e2 ∧ h 60 = aI 201 to ∧ h 61 = aI 202 n1 ∧ h 62 = aI 202 n2 ∧ h 63 = aI 202 n3 ∧ h 64 = aI 40602 mx ∧ ∀ j, 1 ≤ j → j ≤ L → (nI md - nw j) - (nI md - nw j) / nI md * nI md = to j
abbrev cC_ : List Nat := [38, 39, 40, 41, 60, 61, 62, 63, 64]
theorem JC.fr {L : Nat} {h h2 : ah} (hr : JC L h) {X : List Nat} (hf : Fr X h h2) (hx : ∀ j, j ∈ cC_ → j ∉ X) : JC L h2 := by
  obtain ⟨a0, md, nw, e1, e2, to, n1, n2, n3, mx, a1, a2, a3, a4, a5, a6, a7, a8, a9, b1, b2, b3⟩ := hr
  exact ⟨a0, md, nw, e1, e2, to, n1, n2, n3, mx, a1, a2, (hf 38 (hx 38 (by decide))).trans a3, (hf 39 (hx 39 (by decide))).trans a4, (hf 40 (hx 40 (by decide))).trans a5, (hf 41 (hx 41 (by decide))).trans a6, (hf 60 (hx 60 (by decide))).trans a7, (hf 61 (hx 61 (by decide))).trans a8, (hf 62 (hx 62 (by decide))).trans a9, (hf 63 (hx 63 (by decide))).trans b1, (hf 64 (hx 64 (by decide))).trans b2, b3⟩
def JK (h : ah) : Prop := h 5 = (3, .inl [.ref 3, .ref 6, .ref 7, .ref 8]) ∧ (∃ a, h 6 = aI 14 a) ∧ (∃ a, h 7 = aI 15 a) ∧ (∃ a, h 8 = aI 5 a) ∧ (∃ a, h 44 = aI 5 a) ∧ ∃ a, h 45 = aI 5 a
abbrev cK_ : List Nat := [5, 6, 7, 8, 44, 45]
theorem JK.fr {h h2 : ah} (hr : JK h) {X : List Nat} (hf : Fr X h h2) (hx : ∀ j, j ∈ cK_ → j ∉ X) : JK h2 := by
  obtain ⟨a1, ⟨b1, a2⟩, ⟨b2, a3⟩, ⟨b3, a4⟩, ⟨b4, a5⟩, ⟨b5, a6⟩⟩ := hr
  exact ⟨(hf 5 (hx 5 (by decide))).trans a1, ⟨b1, (hf 6 (hx 6 (by decide))).trans a2⟩, ⟨b2, (hf 7 (hx 7 (by decide))).trans a3⟩, ⟨b3, (hf 8 (hx 8 (by decide))).trans a4⟩, ⟨b4, (hf 44 (hx 44 (by decide))).trans a5⟩, ⟨b5, (hf 45 (hx 45 (by decide))).trans a6⟩⟩
def Jm (k n s : Nat) (F T : Nat → Nat) (E : Nat) (kd f l : Int32) (P L : Nat) (mc : Int32) (h : ah) : Prop := JP k n s F T E ∧ h 2 = cX f l ∧ h 42 = cM (nI k) (nI n) (nI (k ^ n)) (nI s) (nI E) mc kd l f (nI P) (nI L) ∧ JR k n s F T E h ∧ JO k n kd h ∧ JT h ∧ JQ P h ∧ JC L h ∧ JK h
def J (h : ah) : Prop := ∃ k n s F T E kd f l P L mc, Jm k n s F T E kd f l P L mc h
theorem JP.pm {k n s E : Nat} {F T : Nat → Nat} (h : JP k n s F T E) (hr : rt k (F 0) = true) : pm (k ^ n) T := ⟨fun w hw => (h.2.2.2.1 w hw).1, h.2.2.2.2.1.mpr hr⟩
theorem Sp_of {G : gx} {J : ah → Prop} {yx ym : my} {a : List Value} {h : ah} {fs : List Value} (g2 : h 2 = (7, .inl fs)) {dx dm : Nat} (hdx : dx < 9) (hdm : dm < 9) {Q1 : Option Value → ah → Prop} (c : Ct G yx dx 0 0 (.ref 2 :: a) h Q1) (k : ∀ r h1, Q1 r h1 → ∃ (v : Int32) (gs : List Value), r = some (.int v) ∧ h1 42 = (8, .inl gs) ∧ Ct G ym dm 0 0 (.ref 42 :: a) h1 (fun r2 h2 => r2 = r ∧ J h2)) : Sp G J yx ym a h := by
  refine ⟨⟨fs, g2⟩, dx, dm, Q1, hdx, hdm, c, fun r h1 q => ?_⟩
  obtain ⟨v, gs, e1, e2, e3⟩ := k r h1 q
  exact ⟨⟨v, e1⟩, ⟨gs, e2⟩, e3⟩
theorem Sp_pure {G : gx} {yx ym : my} {a : List Value} {h : ah} {fs gs : List Value} {v w : Int32} (hJ : J h) (g2 : h 2 = (7, .inl fs)) (g42 : h 42 = (8, .inl gs)) {dx dm : Nat} (hdx : dx < 9) (hdm : dm < 9) (c1 : Ct G yx dx 0 0 (.ref 2 :: a) h (Rv (.int v) h)) (c2 : Ct G ym dm 0 0 (.ref 42 :: a) h (Rv (.int w) h)) (hvw : v = w) : Sp G J yx ym a h :=
  Sp_of g2 hdx hdm c1 (fun r h1 e => by
    obtain ⟨rfl, e⟩ := e
    subst e
    exact ⟨v, gs, rfl, g42, Ct.mono c2 (fun r2 h2 q => ⟨by rw [q.1, hvw], by rw [q.2]; exact hJ⟩)⟩)
section ST1
variable {G : gx} {h : ah}
theorem st_turn (hJ : J h) (a1 a2 : Int32) : Sp G J mX7_turn mX8_turn [.int a1, .int a2] h := by
  have hJ2 := hJ
  obtain ⟨k, n, s, F, T, E, kd, f, l, P, L, mc, ⟨ok, -⟩, g2, g42, ⟨⟨s1, s2, c, s3, l0, cn, lw, pw, ff, g3, g4, hp, -⟩, -⟩, -⟩ := hJ
  exact Sp_pure hJ2 g2 g42 (by decide) (by decide) (X_turn ok g2 g3 g4 hp a1 a2) (M_turn ok g42 a1 a2) rfl
theorem st_least (hJ : J h) (a1 : Int32) : Sp G J mX7_least mX8_least [.int a1] h := by
  have hJ2 := hJ
  obtain ⟨k, n, s, F, T, E, kd, f, l, P, L, mc, ⟨ok, -⟩, g2, g42, ⟨hg, -, ⟨lf, g43, hlf⟩, -⟩, -⟩ := hJ
  exact Sp_pure hJ2 g2 g42 (by decide) (by decide) (X_least ok g2 hg.g3 a1) (M_least ok g42 g43 hlf a1) rfl
theorem st_steps (hJ : J h) (a1 : Int32) : Sp G J mX7_steps mX8_steps [.int a1] h := by
  have hJ2 := hJ
  obtain ⟨k, n, s, F, T, E, kd, f, l, P, L, mc, ⟨ok, -⟩, g2, g42, ⟨hg, -, ⟨lf, g43, hlf⟩, -⟩, -⟩ := hJ
  exact Sp_pure hJ2 g2 g42 (by decide) (by decide) (X_steps ok g2 hg.g3 a1) (M_steps ok g42 g43 hlf a1) rfl
theorem st_size (hJ : J h) (a1 : Int32) : Sp G J mX7_size mX8_size [.int a1] h := by
  have hJ2 := hJ
  obtain ⟨k, n, s, F, T, E, kd, f, l, P, L, mc, ⟨ok, -⟩, g2, g42, ⟨hg, -⟩, -⟩ := hJ
  exact Sp_pure hJ2 g2 g42 (by decide) (by decide) (X_size ok g2 hg.g3 a1) (M_size ok g42 a1) rfl
theorem st_even (hJ : J h) (a1 : Int32) : Sp G J mX7_even mX8_even [.int a1] h := by
  have hJ2 := hJ
  obtain ⟨k, n, s, F, T, E, kd, f, l, P, L, mc, ⟨ok, -⟩, g2, g42, ⟨hg, -, ⟨lf, g43, hlf⟩, -⟩, -⟩ := hJ
  exact Sp_pure hJ2 g2 g42 (by decide) (by decide) (X_even ok g2 hg.g3 a1) (M_even ok g42 g43 hlf a1) rfl
theorem st_letter (hJ : J h) (a1 : Int32) : Sp G J mX7_letter mX8_letter [.int a1] h := by
  have hJ2 := hJ
  obtain ⟨k, n, s, F, T, E, kd, f, l, P, L, mc, ⟨ok, -⟩, g2, g42, ⟨hg, -⟩, ⟨⟨fm, g17⟩, ⟨rl, rm, g18, g53, hr⟩, -⟩, -⟩ := hJ
  have hN := ok.le (Nat.le_refl n)
  refine Sp_pure hJ2 g2 g42 (by decide) (by decide) (X_letter ok g2 hg.g3 g17 g18 a1) (M_letter ok g42 g53 a1) ?_
  unfold a_letter
  by_cases hk : kd = -1
  · rw [if_pos hk, if_pos hk]
  · rw [if_neg hk, if_neg hk]
    by_cases hx : a1 < 0 ∨ nI (k ^ n) ≤ a1
    · rw [if_pos hx, if_pos hx]
    · rw [if_neg hx, if_neg hx]
      obtain ⟨j, hj, rfl⟩ := p_pick hN hx
      obtain ⟨rr, hrr⟩ := hr hk
      rw [nI_clamp (by omega), (hrr j hj).1, (hrr j hj).2.1]
theorem st_place (hJ : J h) (a1 : Int32) : Sp G J mX7_place mX8_place [.int a1] h := by
  have hJ2 := hJ
  obtain ⟨k, n, s, F, T, E, kd, f, l, P, L, mc, ⟨ok, -⟩, g2, g42, ⟨hg, -⟩, ⟨⟨fm, g17⟩, -, ⟨pl, g19, g54⟩, -⟩, -⟩ := hJ
  exact Sp_pure hJ2 g2 g42 (by decide) (by decide) (X_place ok g2 hg.g3 g17 g19 a1) (M_place ok g42 g54 a1) rfl
theorem st_way (hJ : J h) (a1 a2 : Int32) : Sp G J mX7_way mX8_way [.int a1, .int a2] h := by
  have hJ2 := hJ
  obtain ⟨k, n, s, F, T, E, kd, f, l, P, L, mc, ⟨ok, -⟩, g2, g42, ⟨hg, -⟩, ⟨⟨fm, g17⟩, -⟩, -⟩ := hJ
  exact Sp_pure hJ2 g2 g42 (by decide) (by decide) (X_way g2 hg.g3 g17 a1 a2) (M_way ok g42 a1 a2) rfl
theorem st_found (hJ : J h) : Sp G J mX7_found mX8_found [] h := by
  have hJ2 := hJ
  obtain ⟨k, n, s, F, T, E, kd, f, l, P, L, mc, -, g2, g42, -⟩ := hJ
  exact Sp_pure hJ2 g2 g42 (dx := 0) (dm := 0) (by decide) (by decide) (X_found g2) (M_found g42) rfl
theorem st_count (hJ : J h) (a1 : Int32) : Sp G J mX7_count mX8_count [.int a1] h := by
  have hJ2 := hJ
  obtain ⟨k, n, s, F, T, E, kd, f, l, P, L, mc, -, g2, g42, ⟨hg, -⟩, ⟨⟨fm, g17⟩, -⟩, -⟩ := hJ
  obtain ⟨s1, s2, c, s3, g9⟩ := hg.g9
  exact Sp_pure hJ2 g2 g42 (dx := 0) (dm := 0) (by decide) (by decide) (X_count g2 hg.g3 g9 g17 a1) (M_count g42 a1) rfl
theorem st_part (hJ : J h) (a1 : Int32) : Sp G J mX7_part mX8_part [.int a1] h := by
  have hJ2 := hJ
  obtain ⟨k, n, s, F, T, E, kd, f, l, P, L, mc, -, g2, g42, -, -, -, ⟨hP, g36, pb, g37, g59⟩, -⟩ := hJ
  exact Sp_pure hJ2 g2 g42 (dx := 0) (by decide) (by decide) (X_part hP g2 g36 g37 a1) (M_part hP g42 g59 a1) rfl
theorem st_coefficient (hJ : J h) (a1 : Int32) : Sp G J mX7_coefficient mX8_coefficient [.int a1] h := by
  have hJ2 := hJ
  obtain ⟨k, n, s, F, T, E, kd, f, l, P, L, mc, -, g2, g42, -, -, -, -, ⟨hL, md, nw, e1, e2, to, n1, n2, n3, mx, hm0, hm5, g38, g39, -, -, g60, -, -, -, -, ht⟩, -⟩ := hJ
  exact Sp_pure hJ2 g2 g42 (by decide) (by decide) (X_coefficient hL hm0 (by omega) g2 g38 g39 ht a1) (M_coefficient hL g42 g60 a1) rfl
end ST1
