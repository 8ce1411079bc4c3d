/-! the beginning keeps the invariant -/
theorem J_start (h : ah) (hx : Hx h) (hm : Hm h) : J h := by
  obtain ⟨g2, g3, ⟨pw, g4, hp⟩, g9, ⟨ff, g10, ht⟩, g11, g12, g13, g14, g15, g16, ⟨tp, g23, t0, t1, t2, t3⟩, g5, g6, g7, g8, g17, g18, g19, g20, g21, g22, g24, g25, g26, g27, g28, g29, g30, g31, g32, g33, g34, g35, g36, g37, g38, g39, g40, g41⟩ := hx
  obtain ⟨g42, ⟨l2, g43, hl⟩, ⟨f2, g46, ht2⟩, ⟨tt, g47, htt⟩, ⟨fo, g55, hfo⟩, g44, g45, g48, g49, g50, g51, g52, g53, g54, g56, g57, g58, g59, g60, g61, g62, g63, g64⟩ := hm
  have ok : okW 2 3 := by refine ⟨?_, ?_, ?_, ?_, ?_⟩ <;> decide
  refine ⟨2, 3, 0, FT, ld 2 3 FT 0, 0, -1, -1, 0, 0, 0, 0, JP.new ok (okFT (by decide)) (by decide), g2, g42, ⟨⟨0, 0, 0, 0, _, _, _, pw, ff, g3, g4, hp, g9, g10, isT_F ht, g13, Or.inl ⟨rfl, fun _ _ => rfl⟩, g14, g15, Or.inl rfl, Or.inl rfl⟩, ⟨⟨tt, g47, htt⟩, ⟨_, g50⟩, ⟨_, g51⟩⟩, ⟨l2, g43, hl⟩, ⟨f2, g46, isT_F ht2⟩, ⟨_, _, g11, g12, g48, g49, fun i hi => absurd hi (Nat.not_lt_zero i)⟩, ⟨_, g16⟩, ⟨_, g52⟩⟩, ⟨⟨_, g17⟩, ⟨_, _, g18, g53, fun q => absurd rfl q⟩, ⟨_, g19, g54⟩, ⟨_, g20⟩, ⟨_, g21⟩, ⟨_, g22⟩⟩, ⟨⟨tp, g23, fun t ht => ?_⟩, fo, _, _, _, g55, g56, g57, g58, fun t ht => ?_⟩, ⟨by decide, g36, _, g37, g59⟩, ⟨by decide, 2, _, _, _, _, _, _, _, _, by decide, by decide, g38, g39, g40, g41, g60, g61, g62, g63, g64, fun j h1 h2 => by omega⟩, g5, ⟨_, g6⟩, ⟨_, g7⟩, ⟨_, g8⟩, ⟨_, g44⟩, ⟨_, g45⟩⟩
  · match t, ht with
    | 0, _ => exact t0
    | 1, _ => exact t1
    | 2, _ => exact t2
    | 3, _ => exact t3
  · have hf := hfo t ht
    refine ⟨0, fun _ => 0, fun _ => 0, by decide, rfl, by rw [hf]; decide, ?_, ?_, ?_, fun _ _ => rfl⟩
    · rw [hf]
      match t, ht with
      | 0, _ => exact g24
      | 1, _ => exact g27
      | 2, _ => exact g30
      | 3, _ => exact g33
    · match t, ht with
      | 0, _ => exact g25
      | 1, _ => exact g28
      | 2, _ => exact g31
      | 3, _ => exact g34
    · match t, ht with
      | 0, _ => exact g26
      | 1, _ => exact g29
      | 2, _ => exact g32
      | 3, _ => exact g35
