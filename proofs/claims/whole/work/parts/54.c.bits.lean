/-! bits: fold -/
theorem dv_1 {a b : Nat} (h : a < 256) : (a + 256 * b) / 256 = b := by omega
theorem dv_2 {a b c : Nat} (h : a < 256) (h2 : b < 256) : (a + 256 * (b + 256 * c)) / 65536 = c := by
  rw [show 65536 = 256 * 256 from rfl, ← Nat.div_div_eq_div_mul, dv_1 h, dv_1 h2]
theorem dv_4 {a b c d e : Nat} (h : a < 256) (h2 : b < 256) (h3 : c < 256) (h4 : d < 256) : (a + 256 * (b + 256 * (c + 256 * (d + 256 * e)))) / 4294967296 = e := by
  rw [show 4294967296 = 65536 * 65536 from rfl, ← Nat.div_div_eq_div_mul, dv_2 h h2, dv_2 h3 h4]
theorem md_7 {a b : Nat} (h : a < 128) : (a + 256 * b) % 128 = a := by omega
theorem pr_2 {a b x y : Nat} : (a + 256 * x) + (b + 256 * y) = (a + b) + 256 * (x + y) := by omega
theorem fold_8 {t0 t1 t2 t3 t4 t5 t6 t7 : Nat} (h0 : t0 ≤ 8) (h1 : t1 ≤ 8) (h2 : t2 ≤ 8) (h3 : t3 ≤ 8) (h4 : t4 ≤ 8) (h5 : t5 ≤ 8) (h6 : t6 ≤ 8) (h7 : t7 ≤ 8) {t w w2 : Nat} (ht : t = t0 + 256 * (t1 + 256 * (t2 + 256 * (t3 + 256 * (t4 + 256 * (t5 + 256 * (t6 + 256 * (t7 + 256 * 0)))))))) (hw : w = t + t / 256) (hw2 : w2 = w + w / 65536) : (w2 + w2 / 4294967296) % 128 = (t0 + t1 + (t2 + t3)) + ((t4 + t5) + (t6 + t7)) := by
  have d1 : t / 256 = t1 + 256 * (t2 + 256 * (t3 + 256 * (t4 + 256 * (t5 + 256 * (t6 + 256 * (t7 + 256 * 0)))))) := by rw [ht]; exact dv_1 (Nat.lt_of_le_of_lt h0 (by decide))
  have s : ∀ {a b : Nat}, a ≤ 8 → b ≤ 8 → a + b < 256 := fun ha hb => Nat.lt_of_le_of_lt (Nat.add_le_add ha hb) (by decide)
  have s4 : ∀ {a b c d : Nat}, a ≤ 8 → b ≤ 8 → c ≤ 8 → d ≤ 8 → (a + b) + (c + d) < 256 := fun ha hb hc hd => Nat.lt_of_le_of_lt (Nat.add_le_add (Nat.add_le_add ha hb) (Nat.add_le_add hc hd)) (by decide)
  rw [d1, ht, pr_2, pr_2, pr_2, pr_2, pr_2, pr_2, pr_2] at hw
  generalize hX : t7 + 256 * 0 + 0 = X at hw
  have d2 : w / 65536 = t2 + t3 + 256 * (t3 + t4 + 256 * (t4 + t5 + 256 * (t5 + t6 + 256 * (t6 + t7 + 256 * X)))) := by rw [hw]; exact dv_2 (s h0 h1) (s h1 h2)
  rw [d2, hw, pr_2, pr_2, pr_2, pr_2, pr_2] at hw2
  generalize hZ : t5 + t6 + 256 * (t6 + t7 + 256 * X) + X = Z at hw2
  have d3 : w2 / 4294967296 = t4 + t5 + (t6 + t7) + 256 * Z := by rw [hw2]; exact dv_4 (s4 h0 h1 h2 h3) (s4 h1 h2 h3 h4) (s4 h2 h3 h4 h5) (s4 h3 h4 h5 h6)
  rw [d3, hw2, pr_2]
  exact md_7 (Nat.lt_of_le_of_lt (Nat.add_le_add (Nat.add_le_add (Nat.add_le_add h0 h1) (Nat.add_le_add h2 h3)) (Nat.add_le_add (Nat.add_le_add h4 h5) (Nat.add_le_add h6 h7))) (by decide))
theorem sT_lt : ∀ m x, sT m x < 256 ^ m
  | 0, x => Nat.one_pos
  | m + 1, x => by
    have h1 := sT_lt m (x / 256)
    have h2 := (tb_z (x % 256) (Nat.mod_lt _ (by decide))).2.2.2
    show pc8 (x % 256) + 256 * sT m (x / 256) < 256 ^ (m + 1)
    rw [Nat.pow_succ]
    omega
theorem sT_60 (x : Nat) : sT 8 x < 2 ^ 60 := by
  have key : ∀ m y, sT m y ≤ 8 * mk8 1 m := by
    intro m
    induction m with
    | zero => intro y; exact Nat.le_refl _
    | succ m ih =>
      intro y
      have h2 := (tb_z (y % 256) (Nat.mod_lt _ (by decide))).2.2.2
      have h3 := ih (y / 256)
      show pc8 (y % 256) + 256 * sT m (y / 256) ≤ 8 * (1 + 256 * mk8 1 m)
      omega
  exact Nat.lt_of_le_of_lt (key 8 x) (by decide +kernel)
