/-! THE LAW over the steps of its forty calls -/
def Sp (G : gx) (J : ah → Prop) (yx ym : my) (a : List Value) (h : ah) : Prop := (∃ fs, h 2 = (7, .inl fs)) ∧ ∃ (dx dm : Nat) (Q1 : Option Value → ah → Prop), dx < 9 ∧ dm < 9 ∧ Ct G yx dx 0 0 (.ref 2 :: a) h Q1 ∧ ∀ r h1, Q1 r h1 → (∃ v : Int32, r = some (.int v)) ∧ (∃ fs, h1 42 = (8, .inl fs)) ∧ Ct G ym dm 0 0 (.ref 42 :: a) h1 (fun r2 h2 => r2 = r ∧ J h2)
def SpL (G : gx) (J : ah → Prop) (yx ym : my) (a : List Value) (h : ah) : Prop := (∃ fs, h 2 = (7, .inl fs)) ∧ ∃ (dx dm : Nat) (Q1 : Option Value → ah → Prop), dx < 9 ∧ dm < 9 ∧ Ct G yx dx 0 0 (.ref 2 :: a) h Q1 ∧ ∀ r h1, Q1 r h1 → (∃ v : Int64, r = some (.long v)) ∧ (∃ fs, h1 42 = (8, .inl fs)) ∧ Ct G ym dm 0 0 (.ref 42 :: a) h1 (fun r2 h2 => r2 = r ∧ J h2)
abbrev Lw (x : Int32) : List (Option Value) := [some (.ref 0), some (.ref 2), some (.ref 42), some (.int x)]
abbrev Qw : Option Value → ah → Prop := fun r _ => r = some (.int (1 : Int32))
abbrev Bw (c z : Nat) : bg := (9, 600000, 7302250, c, z)
theorem lw_0 {G : gx} {J : ah → Prop} {h : ah} {c z : Nat} {x3 : Int32} (i1 : vp_in (x3 + (1 : Int32)) (g_n G)) (i2 : vp_in (x3 + (2 : Int32)) (g_n G)) (hc : c ≤ 600000) (hz : z ≤ 7302250) (st : Sp G J mX7_wheel mX8_wheel [.int (g_x G (x3 + (1 : Int32)).toNatClampNeg), .int (g_x G (x3 + (2 : Int32)).toNatClampNeg)] h) (K : ∀ h2, J h2 → V G mL_law (Bw c z) 18 (Lw (x3 + (6 : Int32))) [] h2 Qw) : V G mL_law (Bw c z) 208 (Lw x3) [] h Qw := by
  obtain ⟨⟨fs, hf⟩, dx, dm, Q1, hdx, hdm, hA, hB⟩ := st
  refine tL_law_208 i1 i2 ?_
  refine cL_law_219 hA hf ⟨hdx, Nat.le_refl 9⟩ (by decide) ⟨hc, hz⟩ (fun r h1 hq => ?_)
  obtain ⟨⟨v, rfl⟩, ⟨fs2, hf2⟩, hM⟩ := hB r h1 hq
  refine tL_law_222 i1 i2 ?_
  refine cL_law_233 hM hf2 ⟨hdm, Nat.le_refl 9⟩ (Nat.le_of_ble_eq_true rfl) ⟨hc, hz⟩ (fun r2 h2 hq2 => ?_)
  obtain ⟨rfl, hJ⟩ := hq2
  exact tL_law_236 (fun _ => K h2 hJ) (fun e => absurd rfl e)
theorem lw_1 {G : gx} {J : ah → Prop} {h : ah} {c z : Nat} {x3 : Int32} (i1 : vp_in (x3 + (1 : Int32)) (g_n G)) (i2 : vp_in (x3 + (2 : Int32)) (g_n G)) (hc : c ≤ 600000) (hz : z ≤ 7302250) (st : Sp G J mX7_turn mX8_turn [.int (g_x G (x3 + (1 : Int32)).toNatClampNeg), .int (g_x G (x3 + (2 : Int32)).toNatClampNeg)] h) (K : ∀ h2, J h2 → V G mL_law (Bw c z) 18 (Lw (x3 + (6 : Int32))) [] h2 Qw) : V G mL_law (Bw c z) 241 (Lw x3) [] h Qw := by
  obtain ⟨⟨fs, hf⟩, dx, dm, Q1, hdx, hdm, hA, hB⟩ := st
  refine tL_law_241 i1 i2 ?_
  refine cL_law_252 hA hf ⟨hdx, Nat.le_refl 9⟩ (by decide) ⟨hc, hz⟩ (fun r h1 hq => ?_)
  obtain ⟨⟨v, rfl⟩, ⟨fs2, hf2⟩, hM⟩ := hB r h1 hq
  refine tL_law_255 i1 i2 ?_
  refine cL_law_266 hM hf2 ⟨hdm, Nat.le_refl 9⟩ (Nat.le_of_ble_eq_true rfl) ⟨hc, hz⟩ (fun r2 h2 hq2 => ?_)
  obtain ⟨rfl, hJ⟩ := hq2
  exact tL_law_269 (fun _ => K h2 hJ) (fun e => absurd rfl e)
theorem lw_2 {G : gx} {J : ah → Prop} {h : ah} {c z : Nat} {x3 : Int32} (i1 : vp_in (x3 + (1 : Int32)) (g_n G)) (hc : c ≤ 600000) (hz : z ≤ 7302250) (st : Sp G J mX7_least mX8_least [.int (g_x G (x3 + (1 : Int32)).toNatClampNeg)] h) (K : ∀ h2, J h2 → V G mL_law (Bw c z) 18 (Lw (x3 + (6 : Int32))) [] h2 Qw) : V G mL_law (Bw c z) 274 (Lw x3) [] h Qw := by
  obtain ⟨⟨fs, hf⟩, dx, dm, Q1, hdx, hdm, hA, hB⟩ := st
  refine tL_law_274 i1 ?_
  refine cL_law_280 hA hf ⟨hdx, Nat.le_refl 9⟩ (by decide) ⟨hc, hz⟩ (fun r h1 hq => ?_)
  obtain ⟨⟨v, rfl⟩, ⟨fs2, hf2⟩, hM⟩ := hB r h1 hq
  refine tL_law_283 i1 ?_
  refine cL_law_289 hM hf2 ⟨hdm, Nat.le_refl 9⟩ (Nat.le_of_ble_eq_true rfl) ⟨hc, hz⟩ (fun r2 h2 hq2 => ?_)
  obtain ⟨rfl, hJ⟩ := hq2
  exact tL_law_292 (fun _ => K h2 hJ) (fun e => absurd rfl e)
theorem lw_3 {G : gx} {J : ah → Prop} {h : ah} {c z : Nat} {x3 : Int32} (i1 : vp_in (x3 + (1 : Int32)) (g_n G)) (hc : c ≤ 600000) (hz : z ≤ 7302250) (st : Sp G J mX7_steps mX8_steps [.int (g_x G (x3 + (1 : Int32)).toNatClampNeg)] h) (K : ∀ h2, J h2 → V G mL_law (Bw c z) 18 (Lw (x3 + (6 : Int32))) [] h2 Qw) : V G mL_law (Bw c z) 297 (Lw x3) [] h Qw := by
  obtain ⟨⟨fs, hf⟩, dx, dm, Q1, hdx, hdm, hA, hB⟩ := st
  refine tL_law_297 i1 ?_
  refine cL_law_303 hA hf ⟨hdx, Nat.le_refl 9⟩ (by decide) ⟨hc, hz⟩ (fun r h1 hq => ?_)
  obtain ⟨⟨v, rfl⟩, ⟨fs2, hf2⟩, hM⟩ := hB r h1 hq
  refine tL_law_306 i1 ?_
  refine cL_law_312 hM hf2 ⟨hdm, Nat.le_refl 9⟩ (Nat.le_of_ble_eq_true rfl) ⟨hc, hz⟩ (fun r2 h2 hq2 => ?_)
  obtain ⟨rfl, hJ⟩ := hq2
  exact tL_law_315 (fun _ => K h2 hJ) (fun e => absurd rfl e)
theorem lw_4 {G : gx} {J : ah → Prop} {h : ah} {c z : Nat} {x3 : Int32} (i1 : vp_in (x3 + (1 : Int32)) (g_n G)) (hc : c ≤ 600000) (hz : z ≤ 7302250) (st : Sp G J mX7_size mX8_size [.int (g_x G (x3 + (1 : Int32)).toNatClampNeg)] h) (K : ∀ h2, J h2 → V G mL_law (Bw c z) 18 (Lw (x3 + (6 : Int32))) [] h2 Qw) : V G mL_law (Bw c z) 320 (Lw x3) [] h Qw := by
  obtain ⟨⟨fs, hf⟩, dx, dm, Q1, hdx, hdm, hA, hB⟩ := st
  refine tL_law_320 i1 ?_
  refine cL_law_326 hA hf ⟨hdx, Nat.le_refl 9⟩ (by decide) ⟨hc, hz⟩ (fun r h1 hq => ?_)
  obtain ⟨⟨v, rfl⟩, ⟨fs2, hf2⟩, hM⟩ := hB r h1 hq
  refine tL_law_329 i1 ?_
  refine cL_law_335 hM hf2 ⟨hdm, Nat.le_refl 9⟩ (Nat.le_of_ble_eq_true rfl) ⟨hc, hz⟩ (fun r2 h2 hq2 => ?_)
  obtain ⟨rfl, hJ⟩ := hq2
  exact tL_law_338 (fun _ => K h2 hJ) (fun e => absurd rfl e)
theorem lw_5 {G : gx} {J : ah → Prop} {h : ah} {c z : Nat} {x3 : Int32} (i1 : vp_in (x3 + (1 : Int32)) (g_n G)) (hc : c ≤ 600000) (hz : z ≤ 7302250) (st : Sp G J mX7_even mX8_even [.int (g_x G (x3 + (1 : Int32)).toNatClampNeg)] h) (K : ∀ h2, J h2 → V G mL_law (Bw c z) 18 (Lw (x3 + (6 : Int32))) [] h2 Qw) : V G mL_law (Bw c z) 343 (Lw x3) [] h Qw := by
  obtain ⟨⟨fs, hf⟩, dx, dm, Q1, hdx, hdm, hA, hB⟩ := st
  refine tL_law_343 i1 ?_
  refine cL_law_349 hA hf ⟨hdx, Nat.le_refl 9⟩ (by decide) ⟨hc, hz⟩ (fun r h1 hq => ?_)
  obtain ⟨⟨v, rfl⟩, ⟨fs2, hf2⟩, hM⟩ := hB r h1 hq
  refine tL_law_352 i1 ?_
  refine cL_law_358 hM hf2 ⟨hdm, Nat.le_refl 9⟩ (Nat.le_of_ble_eq_true rfl) ⟨hc, hz⟩ (fun r2 h2 hq2 => ?_)
  obtain ⟨rfl, hJ⟩ := hq2
  exact tL_law_361 (fun _ => K h2 hJ) (fun e => absurd rfl e)
theorem lw_6 {G : gx} {J : ah → Prop} {h : ah} {c z : Nat} {x3 : Int32} (hc : c ≤ 600000) (hz : z ≤ 7302250) (st : Sp G J mX7_rings mX8_rings [] h) (K : ∀ h2, J h2 → V G mL_law (Bw c z) 18 (Lw (x3 + (6 : Int32))) [] h2 Qw) : V G mL_law (Bw c z) 366 (Lw x3) [] h Qw := by
  obtain ⟨⟨fs, hf⟩, dx, dm, Q1, hdx, hdm, hA, hB⟩ := st
  refine tL_law_366  ?_
  refine cL_law_367 hA hf ⟨hdx, Nat.le_refl 9⟩ (by decide) ⟨hc, hz⟩ (fun r h1 hq => ?_)
  obtain ⟨⟨v, rfl⟩, ⟨fs2, hf2⟩, hM⟩ := hB r h1 hq
  refine tL_law_370  ?_
  refine cL_law_371 hM hf2 ⟨hdm, Nat.le_refl 9⟩ (Nat.le_of_ble_eq_true rfl) ⟨hc, hz⟩ (fun r2 h2 hq2 => ?_)
  obtain ⟨rfl, hJ⟩ := hq2
  exact tL_law_374 (fun _ => K h2 hJ) (fun e => absurd rfl e)
theorem lw_7 {G : gx} {J : ah → Prop} {h : ah} {c z : Nat} {x3 : Int32} (i1 : vp_in (x3 + (1 : Int32)) (g_n G)) (hc : c ≤ 600000) (hz : z ≤ 7302250) (st : Sp G J mX7_ringOf mX8_ringOf [.int (g_x G (x3 + (1 : Int32)).toNatClampNeg)] h) (K : ∀ h2, J h2 → V G mL_law (Bw c z) 18 (Lw (x3 + (6 : Int32))) [] h2 Qw) : V G mL_law (Bw c z) 379 (Lw x3) [] h Qw := by
  obtain ⟨⟨fs, hf⟩, dx, dm, Q1, hdx, hdm, hA, hB⟩ := st
  refine tL_law_379 i1 ?_
  refine cL_law_385 hA hf ⟨hdx, Nat.le_refl 9⟩ (by decide) ⟨hc, hz⟩ (fun r h1 hq => ?_)
  obtain ⟨⟨v, rfl⟩, ⟨fs2, hf2⟩, hM⟩ := hB r h1 hq
  refine tL_law_388 i1 ?_
  refine cL_law_394 hM hf2 ⟨hdm, Nat.le_refl 9⟩ (Nat.le_of_ble_eq_true rfl) ⟨hc, hz⟩ (fun r2 h2 hq2 => ?_)
  obtain ⟨rfl, hJ⟩ := hq2
  exact tL_law_397 (fun _ => K h2 hJ) (fun e => absurd rfl e)
theorem lw_8 {G : gx} {J : ah → Prop} {h : ah} {c z : Nat} {x3 : Int32} (i1 : vp_in (x3 + (1 : Int32)) (g_n G)) (hc : c ≤ 600000) (hz : z ≤ 7302250) (st : Sp G J mX7_ring mX8_ring [.int (g_x G (x3 + (1 : Int32)).toNatClampNeg)] h) (K : ∀ h2, J h2 → V G mL_law (Bw c z) 18 (Lw (x3 + (6 : Int32))) [] h2 Qw) : V G mL_law (Bw c z) 402 (Lw x3) [] h Qw := by
  obtain ⟨⟨fs, hf⟩, dx, dm, Q1, hdx, hdm, hA, hB⟩ := st
  refine tL_law_402 i1 ?_
  refine cL_law_408 hA hf ⟨hdx, Nat.le_refl 9⟩ (by decide) ⟨hc, hz⟩ (fun r h1 hq => ?_)
  obtain ⟨⟨v, rfl⟩, ⟨fs2, hf2⟩, hM⟩ := hB r h1 hq
  refine tL_law_411 i1 ?_
  refine cL_law_417 hM hf2 ⟨hdm, Nat.le_refl 9⟩ (Nat.le_of_ble_eq_true rfl) ⟨hc, hz⟩ (fun r2 h2 hq2 => ?_)
  obtain ⟨rfl, hJ⟩ := hq2
  exact tL_law_420 (fun _ => K h2 hJ) (fun e => absurd rfl e)
theorem lw_9 {G : gx} {J : ah → Prop} {h : ah} {c z : Nat} {x3 : Int32} (i1 : vp_in (x3 + (1 : Int32)) (g_n G)) (hc : c ≤ 600000) (hz : z ≤ 7302250) (st : Sp G J mX7_below mX8_below [.int (g_x G (x3 + (1 : Int32)).toNatClampNeg)] h) (K : ∀ h2, J h2 → V G mL_law (Bw c z) 18 (Lw (x3 + (6 : Int32))) [] h2 Qw) : V G mL_law (Bw c z) 425 (Lw x3) [] h Qw := by
  obtain ⟨⟨fs, hf⟩, dx, dm, Q1, hdx, hdm, hA, hB⟩ := st
  refine tL_law_425 i1 ?_
  refine cL_law_431 hA hf ⟨hdx, Nat.le_refl 9⟩ (by decide) ⟨hc, hz⟩ (fun r h1 hq => ?_)
  obtain ⟨⟨v, rfl⟩, ⟨fs2, hf2⟩, hM⟩ := hB r h1 hq
  refine tL_law_434 i1 ?_
  refine cL_law_440 hM hf2 ⟨hdm, Nat.le_refl 9⟩ (Nat.le_of_ble_eq_true rfl) ⟨hc, hz⟩ (fun r2 h2 hq2 => ?_)
  obtain ⟨rfl, hJ⟩ := hq2
  exact tL_law_443 (fun _ => K h2 hJ) (fun e => absurd rfl e)
theorem lw_10 {G : gx} {J : ah → Prop} {h : ah} {c z : Nat} {x3 : Int32} (i1 : vp_in (x3 + (1 : Int32)) (g_n G)) (i2 : vp_in (x3 + (2 : Int32)) (g_n G)) (i3 : vp_in (x3 + (3 : Int32)) (g_n G)) (i4 : vp_in (x3 + (4 : Int32)) (g_n G)) (i5 : vp_in (x3 + (5 : Int32)) (g_n G)) (hc : c ≤ 600000) (hz : z ≤ 7302250) (st : Sp G J mX7_content mX8_content [.int (g_x G (x3 + (1 : Int32)).toNatClampNeg), .int (g_x G (x3 + (2 : Int32)).toNatClampNeg), .int (g_x G (x3 + (3 : Int32)).toNatClampNeg), .int (g_x G (x3 + (4 : Int32)).toNatClampNeg), .int (g_x G (x3 + (5 : Int32)).toNatClampNeg)] h) (K : ∀ h2, J h2 → V G mL_law (Bw c z) 18 (Lw (x3 + (6 : Int32))) [] h2 Qw) : V G mL_law (Bw c z) 448 (Lw x3) [] h Qw := by
  obtain ⟨⟨fs, hf⟩, dx, dm, Q1, hdx, hdm, hA, hB⟩ := st
  refine tL_law_448 i1 i2 i3 i4 i5 ?_
  refine cL_law_474 hA hf ⟨hdx, Nat.le_refl 9⟩ (by decide) ⟨hc, hz⟩ (fun r h1 hq => ?_)
  obtain ⟨⟨v, rfl⟩, ⟨fs2, hf2⟩, hM⟩ := hB r h1 hq
  refine tL_law_477 i1 i2 i3 i4 i5 ?_
  refine cL_law_503 hM hf2 ⟨hdm, Nat.le_refl 9⟩ (Nat.le_of_ble_eq_true rfl) ⟨hc, hz⟩ (fun r2 h2 hq2 => ?_)
  obtain ⟨rfl, hJ⟩ := hq2
  exact tL_law_506 (fun _ => K h2 hJ) (fun e => absurd rfl e)
theorem lw_11 {G : gx} {J : ah → Prop} {h : ah} {c z : Nat} {x3 : Int32} (i1 : vp_in (x3 + (1 : Int32)) (g_n G)) (i2 : vp_in (x3 + (2 : Int32)) (g_n G)) (hc : c ≤ 600000) (hz : z ≤ 7302250) (st : Sp G J mX7_factor mX8_factor [.int (g_x G (x3 + (1 : Int32)).toNatClampNeg), .int (g_x G (x3 + (2 : Int32)).toNatClampNeg)] h) (K : ∀ h2, J h2 → V G mL_law (Bw c z) 18 (Lw (x3 + (6 : Int32))) [] h2 Qw) : V G mL_law (Bw c z) 511 (Lw x3) [] h Qw := by
  obtain ⟨⟨fs, hf⟩, dx, dm, Q1, hdx, hdm, hA, hB⟩ := st
  refine tL_law_511 i1 i2 ?_
  refine cL_law_522 hA hf ⟨hdx, Nat.le_refl 9⟩ (by decide) ⟨hc, hz⟩ (fun r h1 hq => ?_)
  obtain ⟨⟨v, rfl⟩, ⟨fs2, hf2⟩, hM⟩ := hB r h1 hq
  refine tL_law_525 i1 i2 ?_
  refine cL_law_536 hM hf2 ⟨hdm, Nat.le_refl 9⟩ (Nat.le_of_ble_eq_true rfl) ⟨hc, hz⟩ (fun r2 h2 hq2 => ?_)
  obtain ⟨rfl, hJ⟩ := hq2
  exact tL_law_539 (fun _ => K h2 hJ) (fun e => absurd rfl e)
theorem lw_12 {G : gx} {J : ah → Prop} {h : ah} {c z : Nat} {x3 : Int32} (i1 : vp_in (x3 + (1 : Int32)) (g_n G)) (hc : c ≤ 600000) (hz : z ≤ 7302250) (st : Sp G J mX7_sum mX8_sum [.int (g_x G (x3 + (1 : Int32)).toNatClampNeg)] h) (K : ∀ h2, J h2 → V G mL_law (Bw c z) 18 (Lw (x3 + (6 : Int32))) [] h2 Qw) : V G mL_law (Bw c z) 544 (Lw x3) [] h Qw := by
  obtain ⟨⟨fs, hf⟩, dx, dm, Q1, hdx, hdm, hA, hB⟩ := st
  refine tL_law_544 i1 ?_
  refine cL_law_550 hA hf ⟨hdx, Nat.le_refl 9⟩ (by decide) ⟨hc, hz⟩ (fun r h1 hq => ?_)
  obtain ⟨⟨v, rfl⟩, ⟨fs2, hf2⟩, hM⟩ := hB r h1 hq
  refine tL_law_553 i1 ?_
  refine cL_law_559 hM hf2 ⟨hdm, Nat.le_refl 9⟩ (Nat.le_of_ble_eq_true rfl) ⟨hc, hz⟩ (fun r2 h2 hq2 => ?_)
  obtain ⟨rfl, hJ⟩ := hq2
  exact tL_law_562 (fun _ => K h2 hJ) (fun e => absurd rfl e)
theorem lw_13 {G : gx} {J : ah → Prop} {h : ah} {c z : Nat} {x3 : Int32} (i1 : vp_in (x3 + (1 : Int32)) (g_n G)) (hc : c ≤ 600000) (hz : z ≤ 7302250) (st : Sp G J mX7_go mX8_go [.int (g_x G (x3 + (1 : Int32)).toNatClampNeg)] h) (K : ∀ h2, J h2 → V G mL_law (Bw c z) 18 (Lw (x3 + (6 : Int32))) [] h2 Qw) : V G mL_law (Bw c z) 567 (Lw x3) [] h Qw := by
  obtain ⟨⟨fs, hf⟩, dx, dm, Q1, hdx, hdm, hA, hB⟩ := st
  refine tL_law_567 i1 ?_
  refine cL_law_573 hA hf ⟨hdx, Nat.le_refl 9⟩ (by decide) ⟨hc, hz⟩ (fun r h1 hq => ?_)
  obtain ⟨⟨v, rfl⟩, ⟨fs2, hf2⟩, hM⟩ := hB r h1 hq
  refine tL_law_576 i1 ?_
  refine cL_law_582 hM hf2 ⟨hdm, Nat.le_refl 9⟩ (Nat.le_of_ble_eq_true rfl) ⟨hc, hz⟩ (fun r2 h2 hq2 => ?_)
  obtain ⟨rfl, hJ⟩ := hq2
  exact tL_law_585 (fun _ => K h2 hJ) (fun e => absurd rfl e)
theorem lw_14 {G : gx} {J : ah → Prop} {h : ah} {c z : Nat} {x3 : Int32} (hc : c ≤ 600000) (hz : z ≤ 7302250) (st : Sp G J mX7_right mX8_right [] h) (K : ∀ h2, J h2 → V G mL_law (Bw c z) 18 (Lw (x3 + (6 : Int32))) [] h2 Qw) : V G mL_law (Bw c z) 590 (Lw x3) [] h Qw := by
  obtain ⟨⟨fs, hf⟩, dx, dm, Q1, hdx, hdm, hA, hB⟩ := st
  refine tL_law_590  ?_
  refine cL_law_591 hA hf ⟨hdx, Nat.le_refl 9⟩ (by decide) ⟨hc, hz⟩ (fun r h1 hq => ?_)
  obtain ⟨⟨v, rfl⟩, ⟨fs2, hf2⟩, hM⟩ := hB r h1 hq
  refine tL_law_594  ?_
  refine cL_law_595 hM hf2 ⟨hdm, Nat.le_refl 9⟩ (Nat.le_of_ble_eq_true rfl) ⟨hc, hz⟩ (fun r2 h2 hq2 => ?_)
  obtain ⟨rfl, hJ⟩ := hq2
  exact tL_law_598 (fun _ => K h2 hJ) (fun e => absurd rfl e)
theorem lw_15 {G : gx} {J : ah → Prop} {h : ah} {c z : Nat} {x3 : Int32} (i1 : vp_in (x3 + (1 : Int32)) (g_n G)) (i2 : vp_in (x3 + (2 : Int32)) (g_n G)) (hc : c ≤ 600000) (hz : z ≤ 7302250) (st : Sp G J mX7_exchange mX8_exchange [.int (g_x G (x3 + (1 : Int32)).toNatClampNeg), .int (g_x G (x3 + (2 : Int32)).toNatClampNeg)] h) (K : ∀ h2, J h2 → V G mL_law (Bw c z) 18 (Lw (x3 + (6 : Int32))) [] h2 Qw) : V G mL_law (Bw c z) 603 (Lw x3) [] h Qw := by
  obtain ⟨⟨fs, hf⟩, dx, dm, Q1, hdx, hdm, hA, hB⟩ := st
  refine tL_law_603 i1 i2 ?_
  refine cL_law_614 hA hf ⟨hdx, Nat.le_refl 9⟩ (by decide) ⟨hc, hz⟩ (fun r h1 hq => ?_)
  obtain ⟨⟨v, rfl⟩, ⟨fs2, hf2⟩, hM⟩ := hB r h1 hq
  refine tL_law_617 i1 i2 ?_
  refine cL_law_628 hM hf2 ⟨hdm, Nat.le_refl 9⟩ (Nat.le_of_ble_eq_true rfl) ⟨hc, hz⟩ (fun r2 h2 hq2 => ?_)
  obtain ⟨rfl, hJ⟩ := hq2
  exact tL_law_631 (fun _ => K h2 hJ) (fun e => absurd rfl e)
theorem lw_16 {G : gx} {J : ah → Prop} {h : ah} {c z : Nat} {x3 : Int32} (hc : c ≤ 600000) (hz : z ≤ 7302250) (st : Sp G J mX7_back mX8_back [] h) (K : ∀ h2, J h2 → V G mL_law (Bw c z) 18 (Lw (x3 + (6 : Int32))) [] h2 Qw) : V G mL_law (Bw c z) 636 (Lw x3) [] h Qw := by
  obtain ⟨⟨fs, hf⟩, dx, dm, Q1, hdx, hdm, hA, hB⟩ := st
  refine tL_law_636  ?_
  refine cL_law_637 hA hf ⟨hdx, Nat.le_refl 9⟩ (by decide) ⟨hc, hz⟩ (fun r h1 hq => ?_)
  obtain ⟨⟨v, rfl⟩, ⟨fs2, hf2⟩, hM⟩ := hB r h1 hq
  refine tL_law_640  ?_
  refine cL_law_641 hM hf2 ⟨hdm, Nat.le_refl 9⟩ (Nat.le_of_ble_eq_true rfl) ⟨hc, hz⟩ (fun r2 h2 hq2 => ?_)
  obtain ⟨rfl, hJ⟩ := hq2
  exact tL_law_644 (fun _ => K h2 hJ) (fun e => absurd rfl e)
theorem lw_17 {G : gx} {J : ah → Prop} {h : ah} {c z : Nat} {x3 : Int32} (hc : c ≤ 600000) (hz : z ≤ 7302250) (st : Sp G J mX7_cycles mX8_cycles [] h) (K : ∀ h2, J h2 → V G mL_law (Bw c z) 18 (Lw (x3 + (6 : Int32))) [] h2 Qw) : V G mL_law (Bw c z) 649 (Lw x3) [] h Qw := by
  obtain ⟨⟨fs, hf⟩, dx, dm, Q1, hdx, hdm, hA, hB⟩ := st
  refine tL_law_649  ?_
  refine cL_law_650 hA hf ⟨hdx, Nat.le_refl 9⟩ (by decide) ⟨hc, hz⟩ (fun r h1 hq => ?_)
  obtain ⟨⟨v, rfl⟩, ⟨fs2, hf2⟩, hM⟩ := hB r h1 hq
  refine tL_law_653  ?_
  refine cL_law_654 hM hf2 ⟨hdm, Nat.le_refl 9⟩ (Nat.le_of_ble_eq_true rfl) ⟨hc, hz⟩ (fun r2 h2 hq2 => ?_)
  obtain ⟨rfl, hJ⟩ := hq2
  exact tL_law_657 (fun _ => K h2 hJ) (fun e => absurd rfl e)
theorem lw_18 {G : gx} {J : ah → Prop} {h : ah} {c z : Nat} {x3 : Int32} (i1 : vp_in (x3 + (1 : Int32)) (g_n G)) (hc : c ≤ 600000) (hz : z ≤ 7302250) (st : Sp G J mX7_cycleOf mX8_cycleOf [.int (g_x G (x3 + (1 : Int32)).toNatClampNeg)] h) (K : ∀ h2, J h2 → V G mL_law (Bw c z) 18 (Lw (x3 + (6 : Int32))) [] h2 Qw) : V G mL_law (Bw c z) 662 (Lw x3) [] h Qw := by
  obtain ⟨⟨fs, hf⟩, dx, dm, Q1, hdx, hdm, hA, hB⟩ := st
  refine tL_law_662 i1 ?_
  refine cL_law_668 hA hf ⟨hdx, Nat.le_refl 9⟩ (by decide) ⟨hc, hz⟩ (fun r h1 hq => ?_)
  obtain ⟨⟨v, rfl⟩, ⟨fs2, hf2⟩, hM⟩ := hB r h1 hq
  refine tL_law_671 i1 ?_
  refine cL_law_677 hM hf2 ⟨hdm, Nat.le_refl 9⟩ (Nat.le_of_ble_eq_true rfl) ⟨hc, hz⟩ (fun r2 h2 hq2 => ?_)
  obtain ⟨rfl, hJ⟩ := hq2
  exact tL_law_680 (fun _ => K h2 hJ) (fun e => absurd rfl e)
theorem lw_19 {G : gx} {J : ah → Prop} {h : ah} {c z : Nat} {x3 : Int32} (i1 : vp_in (x3 + (1 : Int32)) (g_n G)) (i2 : vp_in (x3 + (2 : Int32)) (g_n G)) (hc : c ≤ 600000) (hz : z ≤ 7302250) (st : Sp G J mX7_cycle mX8_cycle [.int (g_x G (x3 + (1 : Int32)).toNatClampNeg), .int (g_x G (x3 + (2 : Int32)).toNatClampNeg)] h) (K : ∀ h2, J h2 → V G mL_law (Bw c z) 18 (Lw (x3 + (6 : Int32))) [] h2 Qw) : V G mL_law (Bw c z) 685 (Lw x3) [] h Qw := by
  obtain ⟨⟨fs, hf⟩, dx, dm, Q1, hdx, hdm, hA, hB⟩ := st
  refine tL_law_685 i1 i2 ?_
  refine cL_law_696 hA hf ⟨hdx, Nat.le_refl 9⟩ (by decide) ⟨hc, hz⟩ (fun r h1 hq => ?_)
  obtain ⟨⟨v, rfl⟩, ⟨fs2, hf2⟩, hM⟩ := hB r h1 hq
  refine tL_law_699 i1 i2 ?_
  refine cL_law_710 hM hf2 ⟨hdm, Nat.le_refl 9⟩ (Nat.le_of_ble_eq_true rfl) ⟨hc, hz⟩ (fun r2 h2 hq2 => ?_)
  obtain ⟨rfl, hJ⟩ := hq2
  exact tL_law_713 (fun _ => K h2 hJ) (fun e => absurd rfl e)
theorem lw_20 {G : gx} {J : ah → Prop} {h : ah} {c z : Nat} {x3 : Int32} (hc : c ≤ 600000) (hz : z ≤ 7302250) (st : Sp G J mX7_join mX8_join [] h) (K : ∀ h2, J h2 → V G mL_law (Bw c z) 18 (Lw (x3 + (6 : Int32))) [] h2 Qw) : V G mL_law (Bw c z) 718 (Lw x3) [] h Qw := by
  obtain ⟨⟨fs, hf⟩, dx, dm, Q1, hdx, hdm, hA, hB⟩ := st
  refine tL_law_718  ?_
  refine cL_law_719 hA hf ⟨hdx, Nat.le_refl 9⟩ (by decide) ⟨hc, hz⟩ (fun r h1 hq => ?_)
  obtain ⟨⟨v, rfl⟩, ⟨fs2, hf2⟩, hM⟩ := hB r h1 hq
  refine tL_law_722  ?_
  refine cL_law_723 hM hf2 ⟨hdm, Nat.le_refl 9⟩ (Nat.le_of_ble_eq_true rfl) ⟨hc, hz⟩ (fun r2 h2 hq2 => ?_)
  obtain ⟨rfl, hJ⟩ := hq2
  exact tL_law_726 (fun _ => K h2 hJ) (fun e => absurd rfl e)
theorem lw_21 {G : gx} {J : ah → Prop} {h : ah} {c z : Nat} {x3 : Int32} (i1 : vp_in (x3 + (1 : Int32)) (g_n G)) (hc : c ≤ 600000) (hz : z ≤ 7302250) (st : Sp G J mX7_round mX8_round [.int (g_x G (x3 + (1 : Int32)).toNatClampNeg)] h) (K : ∀ h2, J h2 → V G mL_law (Bw c z) 18 (Lw (x3 + (6 : Int32))) [] h2 Qw) : V G mL_law (Bw c z) 731 (Lw x3) [] h Qw := by
  obtain ⟨⟨fs, hf⟩, dx, dm, Q1, hdx, hdm, hA, hB⟩ := st
  refine tL_law_731 i1 ?_
  refine cL_law_737 hA hf ⟨hdx, Nat.le_refl 9⟩ (by decide) ⟨hc, hz⟩ (fun r h1 hq => ?_)
  obtain ⟨⟨v, rfl⟩, ⟨fs2, hf2⟩, hM⟩ := hB r h1 hq
  refine tL_law_740 i1 ?_
  refine cL_law_746 hM hf2 ⟨hdm, Nat.le_refl 9⟩ (Nat.le_of_ble_eq_true rfl) ⟨hc, hz⟩ (fun r2 h2 hq2 => ?_)
  obtain ⟨rfl, hJ⟩ := hq2
  exact tL_law_749 (fun _ => K h2 hJ) (fun e => absurd rfl e)
theorem lw_22 {G : gx} {J : ah → Prop} {h : ah} {c z : Nat} {x3 : Int32} (i1 : vp_in (x3 + (1 : Int32)) (g_n G)) (hc : c ≤ 600000) (hz : z ≤ 7302250) (st : Sp G J mX7_letter mX8_letter [.int (g_x G (x3 + (1 : Int32)).toNatClampNeg)] h) (K : ∀ h2, J h2 → V G mL_law (Bw c z) 18 (Lw (x3 + (6 : Int32))) [] h2 Qw) : V G mL_law (Bw c z) 754 (Lw x3) [] h Qw := by
  obtain ⟨⟨fs, hf⟩, dx, dm, Q1, hdx, hdm, hA, hB⟩ := st
  refine tL_law_754 i1 ?_
  refine cL_law_760 hA hf ⟨hdx, Nat.le_refl 9⟩ (by decide) ⟨hc, hz⟩ (fun r h1 hq => ?_)
  obtain ⟨⟨v, rfl⟩, ⟨fs2, hf2⟩, hM⟩ := hB r h1 hq
  refine tL_law_763 i1 ?_
  refine cL_law_769 hM hf2 ⟨hdm, Nat.le_refl 9⟩ (Nat.le_of_ble_eq_true rfl) ⟨hc, hz⟩ (fun r2 h2 hq2 => ?_)
  obtain ⟨rfl, hJ⟩ := hq2
  exact tL_law_772 (fun _ => K h2 hJ) (fun e => absurd rfl e)
theorem lw_23 {G : gx} {J : ah → Prop} {h : ah} {c z : Nat} {x3 : Int32} (i1 : vp_in (x3 + (1 : Int32)) (g_n G)) (hc : c ≤ 600000) (hz : z ≤ 7302250) (st : Sp G J mX7_place mX8_place [.int (g_x G (x3 + (1 : Int32)).toNatClampNeg)] h) (K : ∀ h2, J h2 → V G mL_law (Bw c z) 18 (Lw (x3 + (6 : Int32))) [] h2 Qw) : V G mL_law (Bw c z) 777 (Lw x3) [] h Qw := by
  obtain ⟨⟨fs, hf⟩, dx, dm, Q1, hdx, hdm, hA, hB⟩ := st
  refine tL_law_777 i1 ?_
  refine cL_law_783 hA hf ⟨hdx, Nat.le_refl 9⟩ (by decide) ⟨hc, hz⟩ (fun r h1 hq => ?_)
  obtain ⟨⟨v, rfl⟩, ⟨fs2, hf2⟩, hM⟩ := hB r h1 hq
  refine tL_law_786 i1 ?_
  refine cL_law_792 hM hf2 ⟨hdm, Nat.le_refl 9⟩ (Nat.le_of_ble_eq_true rfl) ⟨hc, hz⟩ (fun r2 h2 hq2 => ?_)
  obtain ⟨rfl, hJ⟩ := hq2
  exact tL_law_795 (fun _ => K h2 hJ) (fun e => absurd rfl e)
theorem lw_24 {G : gx} {J : ah → Prop} {h : ah} {c z : Nat} {x3 : Int32} (i1 : vp_in (x3 + (1 : Int32)) (g_n G)) (i2 : vp_in (x3 + (2 : Int32)) (g_n G)) (hc : c ≤ 600000) (hz : z ≤ 7302250) (st : Sp G J mX7_way mX8_way [.int (g_x G (x3 + (1 : Int32)).toNatClampNeg), .int (g_x G (x3 + (2 : Int32)).toNatClampNeg)] h) (K : ∀ h2, J h2 → V G mL_law (Bw c z) 18 (Lw (x3 + (6 : Int32))) [] h2 Qw) : V G mL_law (Bw c z) 800 (Lw x3) [] h Qw := by
  obtain ⟨⟨fs, hf⟩, dx, dm, Q1, hdx, hdm, hA, hB⟩ := st
  refine tL_law_800 i1 i2 ?_
  refine cL_law_811 hA hf ⟨hdx, Nat.le_refl 9⟩ (by decide) ⟨hc, hz⟩ (fun r h1 hq => ?_)
  obtain ⟨⟨v, rfl⟩, ⟨fs2, hf2⟩, hM⟩ := hB r h1 hq
  refine tL_law_814 i1 i2 ?_
  refine cL_law_825 hM hf2 ⟨hdm, Nat.le_refl 9⟩ (Nat.le_of_ble_eq_true rfl) ⟨hc, hz⟩ (fun r2 h2 hq2 => ?_)
  obtain ⟨rfl, hJ⟩ := hq2
  exact tL_law_828 (fun _ => K h2 hJ) (fun e => absurd rfl e)
theorem lw_25 {G : gx} {J : ah → Prop} {h : ah} {c z : Nat} {x3 : Int32} (i1 : vp_in (x3 + (1 : Int32)) (g_n G)) (i2 : vp_in (x3 + (2 : Int32)) (g_n G)) (i3 : vp_in (x3 + (3 : Int32)) (g_n G)) (hc : c ≤ 600000) (hz : z ≤ 7302250) (st : Sp G J mX7_tape mX8_tape [.int (g_x G (x3 + (1 : Int32)).toNatClampNeg), .int (g_x G (x3 + (2 : Int32)).toNatClampNeg), .int (g_x G (x3 + (3 : Int32)).toNatClampNeg)] h) (K : ∀ h2, J h2 → V G mL_law (Bw c z) 18 (Lw (x3 + (6 : Int32))) [] h2 Qw) : V G mL_law (Bw c z) 833 (Lw x3) [] h Qw := by
  obtain ⟨⟨fs, hf⟩, dx, dm, Q1, hdx, hdm, hA, hB⟩ := st
  refine tL_law_833 i1 i2 i3 ?_
  refine cL_law_849 hA hf ⟨hdx, Nat.le_refl 9⟩ (by decide) ⟨hc, hz⟩ (fun r h1 hq => ?_)
  obtain ⟨⟨v, rfl⟩, ⟨fs2, hf2⟩, hM⟩ := hB r h1 hq
  refine tL_law_852 i1 i2 i3 ?_
  refine cL_law_868 hM hf2 ⟨hdm, Nat.le_refl 9⟩ (Nat.le_of_ble_eq_true rfl) ⟨hc, hz⟩ (fun r2 h2 hq2 => ?_)
  obtain ⟨rfl, hJ⟩ := hq2
  exact tL_law_871 (fun _ => K h2 hJ) (fun e => absurd rfl e)
theorem lw_26 {G : gx} {J : ah → Prop} {h : ah} {c z : Nat} {x3 : Int32} (i1 : vp_in (x3 + (1 : Int32)) (g_n G)) (hc : c ≤ 600000) (hz : z ≤ 7302250) (st : Sp G J mX7_lose mX8_lose [.int (g_x G (x3 + (1 : Int32)).toNatClampNeg)] h) (K : ∀ h2, J h2 → V G mL_law (Bw c z) 18 (Lw (x3 + (6 : Int32))) [] h2 Qw) : V G mL_law (Bw c z) 876 (Lw x3) [] h Qw := by
  obtain ⟨⟨fs, hf⟩, dx, dm, Q1, hdx, hdm, hA, hB⟩ := st
  refine tL_law_876 i1 ?_
  refine cL_law_882 hA hf ⟨hdx, Nat.le_refl 9⟩ (by decide) ⟨hc, hz⟩ (fun r h1 hq => ?_)
  obtain ⟨⟨v, rfl⟩, ⟨fs2, hf2⟩, hM⟩ := hB r h1 hq
  refine tL_law_885 i1 ?_
  refine cL_law_891 hM hf2 ⟨hdm, Nat.le_refl 9⟩ (Nat.le_of_ble_eq_true rfl) ⟨hc, hz⟩ (fun r2 h2 hq2 => ?_)
  obtain ⟨rfl, hJ⟩ := hq2
  exact tL_law_894 (fun _ => K h2 hJ) (fun e => absurd rfl e)
theorem lw_27 {G : gx} {J : ah → Prop} {h : ah} {c z : Nat} {x3 : Int32} (i1 : vp_in (x3 + (1 : Int32)) (g_n G)) (i2 : vp_in (x3 + (2 : Int32)) (g_n G)) (i3 : vp_in (x3 + (3 : Int32)) (g_n G)) (i4 : vp_in (x3 + (4 : Int32)) (g_n G)) (hc : c ≤ 600000) (hz : z ≤ 7302250) (st : Sp G J mX7_put mX8_put [.int (g_x G (x3 + (1 : Int32)).toNatClampNeg), .int (g_x G (x3 + (2 : Int32)).toNatClampNeg), .int (g_x G (x3 + (3 : Int32)).toNatClampNeg), .int (g_x G (x3 + (4 : Int32)).toNatClampNeg)] h) (K : ∀ h2, J h2 → V G mL_law (Bw c z) 18 (Lw (x3 + (6 : Int32))) [] h2 Qw) : V G mL_law (Bw c z) 899 (Lw x3) [] h Qw := by
  obtain ⟨⟨fs, hf⟩, dx, dm, Q1, hdx, hdm, hA, hB⟩ := st
  refine tL_law_899 i1 i2 i3 i4 ?_
  refine cL_law_920 hA hf ⟨hdx, Nat.le_refl 9⟩ (by decide) ⟨hc, hz⟩ (fun r h1 hq => ?_)
  obtain ⟨⟨v, rfl⟩, ⟨fs2, hf2⟩, hM⟩ := hB r h1 hq
  refine tL_law_923 i1 i2 i3 i4 ?_
  refine cL_law_944 hM hf2 ⟨hdm, Nat.le_refl 9⟩ (Nat.le_of_ble_eq_true rfl) ⟨hc, hz⟩ (fun r2 h2 hq2 => ?_)
  obtain ⟨rfl, hJ⟩ := hq2
  exact tL_law_947 (fun _ => K h2 hJ) (fun e => absurd rfl e)
theorem lw_28 {G : gx} {J : ah → Prop} {h : ah} {c z : Nat} {x3 : Int32} (i1 : vp_in (x3 + (1 : Int32)) (g_n G)) (i2 : vp_in (x3 + (2 : Int32)) (g_n G)) (i3 : vp_in (x3 + (3 : Int32)) (g_n G)) (hc : c ≤ 600000) (hz : z ≤ 7302250) (st : Sp G J mX7_get mX8_get [.int (g_x G (x3 + (1 : Int32)).toNatClampNeg), .int (g_x G (x3 + (2 : Int32)).toNatClampNeg), .int (g_x G (x3 + (3 : Int32)).toNatClampNeg)] h) (K : ∀ h2, J h2 → V G mL_law (Bw c z) 18 (Lw (x3 + (6 : Int32))) [] h2 Qw) : V G mL_law (Bw c z) 952 (Lw x3) [] h Qw := by
  obtain ⟨⟨fs, hf⟩, dx, dm, Q1, hdx, hdm, hA, hB⟩ := st
  refine tL_law_952 i1 i2 i3 ?_
  refine cL_law_968 hA hf ⟨hdx, Nat.le_refl 9⟩ (by decide) ⟨hc, hz⟩ (fun r h1 hq => ?_)
  obtain ⟨⟨v, rfl⟩, ⟨fs2, hf2⟩, hM⟩ := hB r h1 hq
  refine tL_law_971 i1 i2 i3 ?_
  refine cL_law_987 hM hf2 ⟨hdm, Nat.le_refl 9⟩ (Nat.le_of_ble_eq_true rfl) ⟨hc, hz⟩ (fun r2 h2 hq2 => ?_)
  obtain ⟨rfl, hJ⟩ := hq2
  exact tL_law_990 (fun _ => K h2 hJ) (fun e => absurd rfl e)
theorem lw_29 {G : gx} {J : ah → Prop} {h : ah} {c z : Nat} {x3 : Int32} (i1 : vp_in (x3 + (1 : Int32)) (g_n G)) (i2 : vp_in (x3 + (2 : Int32)) (g_n G)) (i3 : vp_in (x3 + (3 : Int32)) (g_n G)) (i4 : vp_in (x3 + (4 : Int32)) (g_n G)) (i5 : vp_in (x3 + (5 : Int32)) (g_n G)) (hc : c ≤ 600000) (hz : z ≤ 7302250) (st : Sp G J mX7_copy mX8_copy [.int (g_x G (x3 + (1 : Int32)).toNatClampNeg), .int (g_x G (x3 + (2 : Int32)).toNatClampNeg), .int (g_x G (x3 + (3 : Int32)).toNatClampNeg), .int (g_x G (x3 + (4 : Int32)).toNatClampNeg), .int (g_x G (x3 + (5 : Int32)).toNatClampNeg)] h) (K : ∀ h2, J h2 → V G mL_law (Bw c z) 18 (Lw (x3 + (6 : Int32))) [] h2 Qw) : V G mL_law (Bw c z) 995 (Lw x3) [] h Qw := by
  obtain ⟨⟨fs, hf⟩, dx, dm, Q1, hdx, hdm, hA, hB⟩ := st
  refine tL_law_995 i1 i2 i3 i4 i5 ?_
  refine cL_law_1021 hA hf ⟨hdx, Nat.le_refl 9⟩ (by decide) ⟨hc, hz⟩ (fun r h1 hq => ?_)
  obtain ⟨⟨v, rfl⟩, ⟨fs2, hf2⟩, hM⟩ := hB r h1 hq
  refine tL_law_1024 i1 i2 i3 i4 i5 ?_
  refine cL_law_1050 hM hf2 ⟨hdm, Nat.le_refl 9⟩ (Nat.le_of_ble_eq_true rfl) ⟨hc, hz⟩ (fun r2 h2 hq2 => ?_)
  obtain ⟨rfl, hJ⟩ := hq2
  exact tL_law_1053 (fun _ => K h2 hJ) (fun e => absurd rfl e)
theorem lw_30 {G : gx} {J : ah → Prop} {h : ah} {c z : Nat} {x3 : Int32} (i1 : vp_in (x3 + (1 : Int32)) (g_n G)) (i2 : vp_in (x3 + (2 : Int32)) (g_n G)) (i3 : vp_in (x3 + (3 : Int32)) (g_n G)) (i4 : vp_in (x3 + (4 : Int32)) (g_n G)) (hc : c ≤ 600000) (hz : z ≤ 7302250) (st : Sp G J mX7_print mX8_print [.int (g_x G (x3 + (1 : Int32)).toNatClampNeg), .int (g_x G (x3 + (2 : Int32)).toNatClampNeg), .int (g_x G (x3 + (3 : Int32)).toNatClampNeg), .int (g_x G (x3 + (4 : Int32)).toNatClampNeg)] h) (K : ∀ h2, J h2 → V G mL_law (Bw c z) 18 (Lw (x3 + (6 : Int32))) [] h2 Qw) : V G mL_law (Bw c z) 1058 (Lw x3) [] h Qw := by
  obtain ⟨⟨fs, hf⟩, dx, dm, Q1, hdx, hdm, hA, hB⟩ := st
  refine tL_law_1058 i1 i2 i3 i4 ?_
  refine cL_law_1079 hA hf ⟨hdx, Nat.le_refl 9⟩ (by decide) ⟨hc, hz⟩ (fun r h1 hq => ?_)
  obtain ⟨⟨v, rfl⟩, ⟨fs2, hf2⟩, hM⟩ := hB r h1 hq
  refine tL_law_1082 i1 i2 i3 i4 ?_
  refine cL_law_1103 hM hf2 ⟨hdm, Nat.le_refl 9⟩ (Nat.le_of_ble_eq_true rfl) ⟨hc, hz⟩ (fun r2 h2 hq2 => ?_)
  obtain ⟨rfl, hJ⟩ := hq2
  exact tL_law_1106 (fun _ => K h2 hJ) (fun e => absurd rfl e)
theorem lw_31 {G : gx} {J : ah → Prop} {h : ah} {c z : Nat} {x3 : Int32} (i1 : vp_in (x3 + (1 : Int32)) (g_n G)) (i2 : vp_in (x3 + (2 : Int32)) (g_n G)) (i3 : vp_in (x3 + (3 : Int32)) (g_n G)) (i4 : vp_in (x3 + (4 : Int32)) (g_n G)) (hc : c ≤ 600000) (hz : z ≤ 7302250) (st : Sp G J mX7_find mX8_find [.int (g_x G (x3 + (1 : Int32)).toNatClampNeg), .int (g_x G (x3 + (2 : Int32)).toNatClampNeg), .int (g_x G (x3 + (3 : Int32)).toNatClampNeg), .int (g_x G (x3 + (4 : Int32)).toNatClampNeg)] h) (K : ∀ h2, J h2 → V G mL_law (Bw c z) 18 (Lw (x3 + (6 : Int32))) [] h2 Qw) : V G mL_law (Bw c z) 1111 (Lw x3) [] h Qw := by
  obtain ⟨⟨fs, hf⟩, dx, dm, Q1, hdx, hdm, hA, hB⟩ := st
  refine tL_law_1111 i1 i2 i3 i4 ?_
  refine cL_law_1132 hA hf ⟨hdx, Nat.le_refl 9⟩ (by decide) ⟨hc, hz⟩ (fun r h1 hq => ?_)
  obtain ⟨⟨v, rfl⟩, ⟨fs2, hf2⟩, hM⟩ := hB r h1 hq
  refine tL_law_1135 i1 i2 i3 i4 ?_
  refine cL_law_1156 hM hf2 ⟨hdm, Nat.le_refl 9⟩ (Nat.le_of_ble_eq_true rfl) ⟨hc, hz⟩ (fun r2 h2 hq2 => ?_)
  obtain ⟨rfl, hJ⟩ := hq2
  exact tL_law_1159 (fun _ => K h2 hJ) (fun e => absurd rfl e)
theorem lw_32 {G : gx} {J : ah → Prop} {h : ah} {c z : Nat} {x3 : Int32} (hc : c ≤ 600000) (hz : z ≤ 7302250) (st : Sp G J mX7_found mX8_found [] h) (K : ∀ h2, J h2 → V G mL_law (Bw c z) 18 (Lw (x3 + (6 : Int32))) [] h2 Qw) : V G mL_law (Bw c z) 1164 (Lw x3) [] h Qw := by
  obtain ⟨⟨fs, hf⟩, dx, dm, Q1, hdx, hdm, hA, hB⟩ := st
  refine tL_law_1164  ?_
  refine cL_law_1165 hA hf ⟨hdx, Nat.le_refl 9⟩ (by decide) ⟨hc, hz⟩ (fun r h1 hq => ?_)
  obtain ⟨⟨v, rfl⟩, ⟨fs2, hf2⟩, hM⟩ := hB r h1 hq
  refine tL_law_1168  ?_
  refine cL_law_1169 hM hf2 ⟨hdm, Nat.le_refl 9⟩ (Nat.le_of_ble_eq_true rfl) ⟨hc, hz⟩ (fun r2 h2 hq2 => ?_)
  obtain ⟨rfl, hJ⟩ := hq2
  exact tL_law_1172 (fun _ => K h2 hJ) (fun e => absurd rfl e)
theorem lw_33 {G : gx} {J : ah → Prop} {h : ah} {c z : Nat} {x3 : Int32} (i1 : vp_in (x3 + (1 : Int32)) (g_n G)) (hc : c ≤ 600000) (hz : z ≤ 7302250) (st : Sp G J mX7_twice mX8_twice [.int (g_x G (x3 + (1 : Int32)).toNatClampNeg)] h) (K : ∀ h2, J h2 → V G mL_law (Bw c z) 18 (Lw (x3 + (6 : Int32))) [] h2 Qw) : V G mL_law (Bw c z) 1177 (Lw x3) [] h Qw := by
  obtain ⟨⟨fs, hf⟩, dx, dm, Q1, hdx, hdm, hA, hB⟩ := st
  refine tL_law_1177 i1 ?_
  refine cL_law_1183 hA hf ⟨hdx, Nat.le_refl 9⟩ (by decide) ⟨hc, hz⟩ (fun r h1 hq => ?_)
  obtain ⟨⟨v, rfl⟩, ⟨fs2, hf2⟩, hM⟩ := hB r h1 hq
  refine tL_law_1186 i1 ?_
  refine cL_law_1192 hM hf2 ⟨hdm, Nat.le_refl 9⟩ (Nat.le_of_ble_eq_true rfl) ⟨hc, hz⟩ (fun r2 h2 hq2 => ?_)
  obtain ⟨rfl, hJ⟩ := hq2
  exact tL_law_1195 (fun _ => K h2 hJ) (fun e => absurd rfl e)
theorem lw_34 {G : gx} {J : ah → Prop} {h : ah} {c z : Nat} {x3 : Int32} (i1 : vp_in (x3 + (1 : Int32)) (g_n G)) (hc : c ≤ 600000) (hz : z ≤ 7302250) (st : Sp G J mX7_parts mX8_parts [.int (g_x G (x3 + (1 : Int32)).toNatClampNeg)] h) (K : ∀ h2, J h2 → V G mL_law (Bw c z) 18 (Lw (x3 + (6 : Int32))) [] h2 Qw) : V G mL_law (Bw c z) 1200 (Lw x3) [] h Qw := by
  obtain ⟨⟨fs, hf⟩, dx, dm, Q1, hdx, hdm, hA, hB⟩ := st
  refine tL_law_1200 i1 ?_
  refine cL_law_1206 hA hf ⟨hdx, Nat.le_refl 9⟩ (by decide) ⟨hc, hz⟩ (fun r h1 hq => ?_)
  obtain ⟨⟨v, rfl⟩, ⟨fs2, hf2⟩, hM⟩ := hB r h1 hq
  refine tL_law_1209 i1 ?_
  refine cL_law_1215 hM hf2 ⟨hdm, Nat.le_refl 9⟩ (Nat.le_of_ble_eq_true rfl) ⟨hc, hz⟩ (fun r2 h2 hq2 => ?_)
  obtain ⟨rfl, hJ⟩ := hq2
  exact tL_law_1218 (fun _ => K h2 hJ) (fun e => absurd rfl e)
theorem lw_35 {G : gx} {J : ah → Prop} {h : ah} {c z : Nat} {x3 : Int32} (i1 : vp_in (x3 + (1 : Int32)) (g_n G)) (hc : c ≤ 600000) (hz : z ≤ 7302250) (st : Sp G J mX7_part mX8_part [.int (g_x G (x3 + (1 : Int32)).toNatClampNeg)] h) (K : ∀ h2, J h2 → V G mL_law (Bw c z) 18 (Lw (x3 + (6 : Int32))) [] h2 Qw) : V G mL_law (Bw c z) 1223 (Lw x3) [] h Qw := by
  obtain ⟨⟨fs, hf⟩, dx, dm, Q1, hdx, hdm, hA, hB⟩ := st
  refine tL_law_1223 i1 ?_
  refine cL_law_1229 hA hf ⟨hdx, Nat.le_refl 9⟩ (by decide) ⟨hc, hz⟩ (fun r h1 hq => ?_)
  obtain ⟨⟨v, rfl⟩, ⟨fs2, hf2⟩, hM⟩ := hB r h1 hq
  refine tL_law_1232 i1 ?_
  refine cL_law_1238 hM hf2 ⟨hdm, Nat.le_refl 9⟩ (Nat.le_of_ble_eq_true rfl) ⟨hc, hz⟩ (fun r2 h2 hq2 => ?_)
  obtain ⟨rfl, hJ⟩ := hq2
  exact tL_law_1241 (fun _ => K h2 hJ) (fun e => absurd rfl e)
theorem lw_36 {G : gx} {J : ah → Prop} {h : ah} {c z : Nat} {x3 : Int32} (i1 : vp_in (x3 + (1 : Int32)) (g_n G)) (hc : c ≤ 600000) (hz : z ≤ 7302250) (st : Sp G J mX7_recurrence mX8_recurrence [.int (g_x G (x3 + (1 : Int32)).toNatClampNeg)] h) (K : ∀ h2, J h2 → V G mL_law (Bw c z) 18 (Lw (x3 + (6 : Int32))) [] h2 Qw) : V G mL_law (Bw c z) 1246 (Lw x3) [] h Qw := by
  obtain ⟨⟨fs, hf⟩, dx, dm, Q1, hdx, hdm, hA, hB⟩ := st
  refine tL_law_1246 i1 ?_
  refine cL_law_1252 hA hf ⟨hdx, Nat.le_refl 9⟩ (by decide) ⟨hc, hz⟩ (fun r h1 hq => ?_)
  obtain ⟨⟨v, rfl⟩, ⟨fs2, hf2⟩, hM⟩ := hB r h1 hq
  refine tL_law_1255 i1 ?_
  refine cL_law_1261 hM hf2 ⟨hdm, Nat.le_refl 9⟩ (Nat.le_of_ble_eq_true rfl) ⟨hc, hz⟩ (fun r2 h2 hq2 => ?_)
  obtain ⟨rfl, hJ⟩ := hq2
  exact tL_law_1264 (fun _ => K h2 hJ) (fun e => absurd rfl e)
theorem lw_37 {G : gx} {J : ah → Prop} {h : ah} {c z : Nat} {x3 : Int32} (i1 : vp_in (x3 + (1 : Int32)) (g_n G)) (hc : c ≤ 600000) (hz : z ≤ 7302250) (st : Sp G J mX7_coefficient mX8_coefficient [.int (g_x G (x3 + (1 : Int32)).toNatClampNeg)] h) (K : ∀ h2, J h2 → V G mL_law (Bw c z) 18 (Lw (x3 + (6 : Int32))) [] h2 Qw) : V G mL_law (Bw c z) 1269 (Lw x3) [] h Qw := by
  obtain ⟨⟨fs, hf⟩, dx, dm, Q1, hdx, hdm, hA, hB⟩ := st
  refine tL_law_1269 i1 ?_
  refine cL_law_1275 hA hf ⟨hdx, Nat.le_refl 9⟩ (by decide) ⟨hc, hz⟩ (fun r h1 hq => ?_)
  obtain ⟨⟨v, rfl⟩, ⟨fs2, hf2⟩, hM⟩ := hB r h1 hq
  refine tL_law_1278 i1 ?_
  refine cL_law_1284 hM hf2 ⟨hdm, Nat.le_refl 9⟩ (Nat.le_of_ble_eq_true rfl) ⟨hc, hz⟩ (fun r2 h2 hq2 => ?_)
  obtain ⟨rfl, hJ⟩ := hq2
  exact tL_law_1287 (fun _ => K h2 hJ) (fun e => absurd rfl e)
theorem lw_38 {G : gx} {J : ah → Prop} {h : ah} {c z : Nat} {x3 : Int32} (i1 : vp_in (x3 + (1 : Int32)) (g_n G)) (hc : c ≤ 600000) (hz : z ≤ 7302250) (st : Sp G J mX7_count mX8_count [.int (g_x G (x3 + (1 : Int32)).toNatClampNeg)] h) (K : ∀ h2, J h2 → V G mL_law (Bw c z) 18 (Lw (x3 + (6 : Int32))) [] h2 Qw) : V G mL_law (Bw c z) 1292 (Lw x3) [] h Qw := by
  obtain ⟨⟨fs, hf⟩, dx, dm, Q1, hdx, hdm, hA, hB⟩ := st
  refine tL_law_1292 i1 ?_
  refine cL_law_1298 hA hf ⟨hdx, Nat.le_refl 9⟩ (by decide) ⟨hc, hz⟩ (fun r h1 hq => ?_)
  obtain ⟨⟨v, rfl⟩, ⟨fs2, hf2⟩, hM⟩ := hB r h1 hq
  refine tL_law_1301 i1 ?_
  refine cL_law_1307 hM hf2 ⟨hdm, Nat.le_refl 9⟩ (Nat.le_of_ble_eq_true rfl) ⟨hc, hz⟩ (fun r2 h2 hq2 => ?_)
  obtain ⟨rfl, hJ⟩ := hq2
  exact tL_law_1310 (fun _ => K h2 hJ) (fun e => absurd rfl e)
theorem lw_39 {G : gx} {J : ah → Prop} {h : ah} {c z : Nat} {x3 : Int32} (hc : c ≤ 600000) (hz : z ≤ 7302250) (st : SpL G J mX7_digest mX8_digest [] h) (K : ∀ h2, J h2 → V G mL_law (Bw c z) 18 (Lw (x3 + (6 : Int32))) [] h2 Qw) : V G mL_law (Bw c z) 1315 (Lw x3) [] h Qw := by
  obtain ⟨⟨fs, hf⟩, dx, dm, Q1, hdx, hdm, hA, hB⟩ := st
  refine tL_law_1315  ?_
  refine cL_law_1316 hA hf ⟨hdx, Nat.le_refl 9⟩ (by decide) ⟨hc, hz⟩ (fun r h1 hq => ?_)
  obtain ⟨⟨v, rfl⟩, ⟨fs2, hf2⟩, hM⟩ := hB r h1 hq
  refine tL_law_1319  ?_
  refine cL_law_1320 hM hf2 ⟨hdm, Nat.le_refl 9⟩ (Nat.le_of_ble_eq_true rfl) ⟨hc, hz⟩ (fun r2 h2 hq2 => ?_)
  obtain ⟨rfl, hJ⟩ := hq2
  exact tL_law_1323 (fun _ => K h2 hJ) (fun e => absurd (by simp [lg_cmp]) e)
def Al (G : gx) (J : ah → Prop) (h : ah) : Prop := (∀ a1 a2 : Int32, Sp G J mX7_wheel mX8_wheel [.int a1, .int a2] h) ∧ (∀ a1 a2 : Int32, Sp G J mX7_turn mX8_turn [.int a1, .int a2] h) ∧ (∀ a1 : Int32, Sp G J mX7_least mX8_least [.int a1] h) ∧ (∀ a1 : Int32, Sp G J mX7_steps mX8_steps [.int a1] h) ∧ (∀ a1 : Int32, Sp G J mX7_size mX8_size [.int a1] h) ∧ (∀ a1 : Int32, Sp G J mX7_even mX8_even [.int a1] h) ∧ Sp G J mX7_rings mX8_rings [] h ∧ (∀ a1 : Int32, Sp G J mX7_ringOf mX8_ringOf [.int a1] h) ∧ (∀ a1 : Int32, Sp G J mX7_ring mX8_ring [.int a1] h) ∧ (∀ a1 : Int32, Sp G J mX7_below mX8_below [.int a1] h) ∧ (∀ a1 a2 a3 a4 a5 : Int32, Sp G J mX7_content mX8_content [.int a1, .int a2, .int a3, .int a4, .int a5] h) ∧ (∀ a1 a2 : Int32, Sp G J mX7_factor mX8_factor [.int a1, .int a2] h) ∧ (∀ a1 : Int32, Sp G J mX7_sum mX8_sum [.int a1] h) ∧ (∀ a1 : Int32, Sp G J mX7_go mX8_go [.int a1] h) ∧ Sp G J mX7_right mX8_right [] h ∧ (∀ a1 a2 : Int32, Sp G J mX7_exchange mX8_exchange [.int a1, .int a2] h) ∧ Sp G J mX7_back mX8_back [] h ∧ Sp G J mX7_cycles mX8_cycles [] h ∧ (∀ a1 : Int32, Sp G J mX7_cycleOf mX8_cycleOf [.int a1] h) ∧ (∀ a1 a2 : Int32, Sp G J mX7_cycle mX8_cycle [.int a1, .int a2] h) ∧ Sp G J mX7_join mX8_join [] h ∧ (∀ a1 : Int32, Sp G J mX7_round mX8_round [.int a1] h) ∧ (∀ a1 : Int32, Sp G J mX7_letter mX8_letter [.int a1] h) ∧ (∀ a1 : Int32, Sp G J mX7_place mX8_place [.int a1] h) ∧ (∀ a1 a2 : Int32, Sp G J mX7_way mX8_way [.int a1, .int a2] h) ∧ (∀ a1 a2 a3 : Int32, Sp G J mX7_tape mX8_tape [.int a1, .int a2, .int a3] h) ∧ (∀ a1 : Int32, Sp G J mX7_lose mX8_lose [.int a1] h) ∧ (∀ a1 a2 a3 a4 : Int32, Sp G J mX7_put mX8_put [.int a1, .int a2, .int a3, .int a4] h) ∧ (∀ a1 a2 a3 : Int32, Sp G J mX7_get mX8_get [.int a1, .int a2, .int a3] h) ∧ (∀ a1 a2 a3 a4 a5 : Int32, Sp G J mX7_copy mX8_copy [.int a1, .int a2, .int a3, .int a4, .int a5] h) ∧ (∀ a1 a2 a3 a4 : Int32, Sp G J mX7_print mX8_print [.int a1, .int a2, .int a3, .int a4] h) ∧ (∀ a1 a2 a3 a4 : Int32, Sp G J mX7_find mX8_find [.int a1, .int a2, .int a3, .int a4] h) ∧ Sp G J mX7_found mX8_found [] h ∧ (∀ a1 : Int32, Sp G J mX7_twice mX8_twice [.int a1] h) ∧ (∀ a1 : Int32, Sp G J mX7_parts mX8_parts [.int a1] h) ∧ (∀ a1 : Int32, Sp G J mX7_part mX8_part [.int a1] h) ∧ (∀ a1 : Int32, Sp G J mX7_recurrence mX8_recurrence [.int a1] h) ∧ (∀ a1 : Int32, Sp G J mX7_coefficient mX8_coefficient [.int a1] h) ∧ (∀ a1 : Int32, Sp G J mX7_count mX8_count [.int a1] h) ∧ SpL G J mX7_digest mX8_digest [] h
theorem lw_in {n i : Nat} (hn : n ≤ 3072) (hi : i ≤ 4000) (h : ¬ nI n - (6 : Int32) < nI i) : i + 6 ≤ n := by
  rw [Int32.lt_iff_toInt_lt] at h
  have e1 : (nI n - nI 6).toInt = (n : Int) - 6 := pk_sub_toInt (by omega) (by omega)
  have e2 : (nI i).toInt = (i : Int) := nI_toInt (by omega)
  have e3 : (nI n - (6 : Int32)).toInt = (n : Int) - 6 := e1
  rw [e3, e2] at h
  omega
theorem lw_vp {n i j : Nat} (hn : n ≤ 3072) (h : i + j < n) : vp_in (nI i + nI j) n := by
  rw [nI_add]
  exact vp_in_nI h (by omega)
theorem lw_sw {G : gx} {J : ah → Prop} {h : ah} {c z i : Nat} (hn : g_n G ≤ 3072) (hi : i + 6 ≤ g_n G) (hc : c ≤ 600000) (hz : z ≤ 7302250) (al : Al G J h) (hJ : J h) (K : ∀ h2, J h2 → V G mL_law (Bw c z) 18 (Lw (nI i + (6 : Int32))) [] h2 Qw) (x : Int32) : V G mL_law (Bw c z) 33 (Lw (nI i)) [.int (x &&& (63 : Int32))] h Qw := by
  obtain ⟨j, hj, e⟩ := pk_andE x (m := 63) 6 (by decide)
  rw [e]
  have i1 : vp_in (nI i + (1 : Int32)) (g_n G) := lw_vp (j := 1) hn (by omega)
  have i2 : vp_in (nI i + (2 : Int32)) (g_n G) := lw_vp (j := 2) hn (by omega)
  have i3 : vp_in (nI i + (3 : Int32)) (g_n G) := lw_vp (j := 3) hn (by omega)
  have i4 : vp_in (nI i + (4 : Int32)) (g_n G) := lw_vp (j := 4) hn (by omega)
  have i5 : vp_in (nI i + (5 : Int32)) (g_n G) := lw_vp (j := 5) hn (by omega)
  have tj : (nI j).toInt = (j : Int) := nI_toInt (by omega)
  by_cases h40 : j < 40
  · obtain ⟨s0, s1, s2, s3, s4, s5, s6, s7, s8, s9, s10, s11, s12, s13, s14, s15, s16, s17, s18, s19, s20, s21, s22, s23, s24, s25, s26, s27, s28, s29, s30, s31, s32, s33, s34, s35, s36, s37, s38, s39⟩ := al
    match j, h40 with
    | 0, _ => exact V_tabIn (off := 175) (t := 208) dL_law_33 (by decide) (by decide) (by decide +kernel) (by decide) (lw_0 i1 i2 hc hz (s0 _ _) K)
    | 1, _ => exact V_tabIn (off := 208) (t := 241) dL_law_33 (by decide) (by decide) (by decide +kernel) (by decide) (lw_1 i1 i2 hc hz (s1 _ _) K)
    | 2, _ => exact V_tabIn (off := 241) (t := 274) dL_law_33 (by decide) (by decide) (by decide +kernel) (by decide) (lw_2 i1 hc hz (s2 _) K)
    | 3, _ => exact V_tabIn (off := 264) (t := 297) dL_law_33 (by decide) (by decide) (by decide +kernel) (by decide) (lw_3 i1 hc hz (s3 _) K)
    | 4, _ => exact V_tabIn (off := 287) (t := 320) dL_law_33 (by decide) (by decide) (by decide +kernel) (by decide) (lw_4 i1 hc hz (s4 _) K)
    | 5, _ => exact V_tabIn (off := 310) (t := 343) dL_law_33 (by decide) (by decide) (by decide +kernel) (by decide) (lw_5 i1 hc hz (s5 _) K)
    | 6, _ => exact V_tabIn (off := 333) (t := 366) dL_law_33 (by decide) (by decide) (by decide +kernel) (by decide) (lw_6  hc hz (s6) K)
    | 7, _ => exact V_tabIn (off := 346) (t := 379) dL_law_33 (by decide) (by decide) (by decide +kernel) (by decide) (lw_7 i1 hc hz (s7 _) K)
    | 8, _ => exact V_tabIn (off := 369) (t := 402) dL_law_33 (by decide) (by decide) (by decide +kernel) (by decide) (lw_8 i1 hc hz (s8 _) K)
    | 9, _ => exact V_tabIn (off := 392) (t := 425) dL_law_33 (by decide) (by decide) (by decide +kernel) (by decide) (lw_9 i1 hc hz (s9 _) K)
    | 10, _ => exact V_tabIn (off := 415) (t := 448) dL_law_33 (by decide) (by decide) (by decide +kernel) (by decide) (lw_10 i1 i2 i3 i4 i5 hc hz (s10 _ _ _ _ _) K)
    | 11, _ => exact V_tabIn (off := 478) (t := 511) dL_law_33 (by decide) (by decide) (by decide +kernel) (by decide) (lw_11 i1 i2 hc hz (s11 _ _) K)
    | 12, _ => exact V_tabIn (off := 511) (t := 544) dL_law_33 (by decide) (by decide) (by decide +kernel) (by decide) (lw_12 i1 hc hz (s12 _) K)
    | 13, _ => exact V_tabIn (off := 534) (t := 567) dL_law_33 (by decide) (by decide) (by decide +kernel) (by decide) (lw_13 i1 hc hz (s13 _) K)
    | 14, _ => exact V_tabIn (off := 557) (t := 590) dL_law_33 (by decide) (by decide) (by decide +kernel) (by decide) (lw_14  hc hz (s14) K)
    | 15, _ => exact V_tabIn (off := 570) (t := 603) dL_law_33 (by decide) (by decide) (by decide +kernel) (by decide) (lw_15 i1 i2 hc hz (s15 _ _) K)
    | 16, _ => exact V_tabIn (off := 603) (t := 636) dL_law_33 (by decide) (by decide) (by decide +kernel) (by decide) (lw_16  hc hz (s16) K)
    | 17, _ => exact V_tabIn (off := 616) (t := 649) dL_law_33 (by decide) (by decide) (by decide +kernel) (by decide) (lw_17  hc hz (s17) K)
    | 18, _ => exact V_tabIn (off := 629) (t := 662) dL_law_33 (by decide) (by decide) (by decide +kernel) (by decide) (lw_18 i1 hc hz (s18 _) K)
    | 19, _ => exact V_tabIn (off := 652) (t := 685) dL_law_33 (by decide) (by decide) (by decide +kernel) (by decide) (lw_19 i1 i2 hc hz (s19 _ _) K)
    | 20, _ => exact V_tabIn (off := 685) (t := 718) dL_law_33 (by decide) (by decide) (by decide +kernel) (by decide) (lw_20  hc hz (s20) K)
    | 21, _ => exact V_tabIn (off := 698) (t := 731) dL_law_33 (by decide) (by decide) (by decide +kernel) (by decide) (lw_21 i1 hc hz (s21 _) K)
    | 22, _ => exact V_tabIn (off := 721) (t := 754) dL_law_33 (by decide) (by decide) (by decide +kernel) (by decide) (lw_22 i1 hc hz (s22 _) K)
    | 23, _ => exact V_tabIn (off := 744) (t := 777) dL_law_33 (by decide) (by decide) (by decide +kernel) (by decide) (lw_23 i1 hc hz (s23 _) K)
    | 24, _ => exact V_tabIn (off := 767) (t := 800) dL_law_33 (by decide) (by decide) (by decide +kernel) (by decide) (lw_24 i1 i2 hc hz (s24 _ _) K)
    | 25, _ => exact V_tabIn (off := 800) (t := 833) dL_law_33 (by decide) (by decide) (by decide +kernel) (by decide) (lw_25 i1 i2 i3 hc hz (s25 _ _ _) K)
    | 26, _ => exact V_tabIn (off := 843) (t := 876) dL_law_33 (by decide) (by decide) (by decide +kernel) (by decide) (lw_26 i1 hc hz (s26 _) K)
    | 27, _ => exact V_tabIn (off := 866) (t := 899) dL_law_33 (by decide) (by decide) (by decide +kernel) (by decide) (lw_27 i1 i2 i3 i4 hc hz (s27 _ _ _ _) K)
    | 28, _ => exact V_tabIn (off := 919) (t := 952) dL_law_33 (by decide) (by decide) (by decide +kernel) (by decide) (lw_28 i1 i2 i3 hc hz (s28 _ _ _) K)
    | 29, _ => exact V_tabIn (off := 962) (t := 995) dL_law_33 (by decide) (by decide) (by decide +kernel) (by decide) (lw_29 i1 i2 i3 i4 i5 hc hz (s29 _ _ _ _ _) K)
    | 30, _ => exact V_tabIn (off := 1025) (t := 1058) dL_law_33 (by decide) (by decide) (by decide +kernel) (by decide) (lw_30 i1 i2 i3 i4 hc hz (s30 _ _ _ _) K)
    | 31, _ => exact V_tabIn (off := 1078) (t := 1111) dL_law_33 (by decide) (by decide) (by decide +kernel) (by decide) (lw_31 i1 i2 i3 i4 hc hz (s31 _ _ _ _) K)
    | 32, _ => exact V_tabIn (off := 1131) (t := 1164) dL_law_33 (by decide) (by decide) (by decide +kernel) (by decide) (lw_32  hc hz (s32) K)
    | 33, _ => exact V_tabIn (off := 1144) (t := 1177) dL_law_33 (by decide) (by decide) (by decide +kernel) (by decide) (lw_33 i1 hc hz (s33 _) K)
    | 34, _ => exact V_tabIn (off := 1167) (t := 1200) dL_law_33 (by decide) (by decide) (by decide +kernel) (by decide) (lw_34 i1 hc hz (s34 _) K)
    | 35, _ => exact V_tabIn (off := 1190) (t := 1223) dL_law_33 (by decide) (by decide) (by decide +kernel) (by decide) (lw_35 i1 hc hz (s35 _) K)
    | 36, _ => exact V_tabIn (off := 1213) (t := 1246) dL_law_33 (by decide) (by decide) (by decide +kernel) (by decide) (lw_36 i1 hc hz (s36 _) K)
    | 37, _ => exact V_tabIn (off := 1236) (t := 1269) dL_law_33 (by decide) (by decide) (by decide +kernel) (by decide) (lw_37 i1 hc hz (s37 _) K)
    | 38, _ => exact V_tabIn (off := 1259) (t := 1292) dL_law_33 (by decide) (by decide) (by decide +kernel) (by decide) (lw_38 i1 hc hz (s38 _) K)
    | 39, _ => exact V_tabIn (off := 1282) (t := 1315) dL_law_33 (by decide) (by decide) (by decide +kernel) (by decide) (lw_39  hc hz (s39) K)
    | j + 40, h => omega
  · refine V_tabOut (t := 1329) dL_law_33 (Or.inr (by rw [tj]; omega)) (by decide) ?_
    exact tL_law_1329 (K h hJ)
theorem lw_loop {G : gx} {J : ah → Prop} {c z : Nat} (hn : g_n G ≤ 3072) (hc : c ≤ 600000) (hz : z ≤ 7302250) (al : ∀ h, J h → Al G J h) : ∀ (f i : Nat) (h : ah), i ≤ 4000 → g_n G < i + 6 * f → J h → V G mL_law (Bw c z) 18 (Lw (nI i)) [] h Qw
  | 0, i, h, hi, hf, hJ => tL_law_18 (fun _ => rfl) (fun e => absurd (lw_in hn hi e) (by omega)) (fun e => absurd (lw_in hn hi e) (by omega))
  | f + 1, i, h, hi, hf, hJ => by
    refine tL_law_18 (fun _ => rfl) (fun e => ?_) (fun e => ?_)
    · have := lw_in hn hi e
      exact vp_in_nI (by omega) (by omega)
    · have h6 := lw_in hn hi e
      refine lw_sw hn h6 hc hz (al h hJ) hJ (fun h2 hJ2 => ?_) _
      have e6 : nI i + (6 : Int32) = nI (i + 6) := nI_add i 6
      rw [e6]
      exact lw_loop hn hc hz al f (i + 6) h2 (by omega) (by omega) hJ2
