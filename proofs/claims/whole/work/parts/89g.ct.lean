/-! CONTENT, pure: how often a letter stands in a word -/
section CTT
variable {k n : Nat}
def ct (k : Nat) : Nat → Nat → Nat → Nat
  | 0, _, _ => 0
  | n + 1, w, v => ct k n (w / k) v + if w % k = v then 1 else 0
theorem ct_split (hk : 0 < k) (j a v : Nat) : ∀ m b, b < k ^ m → ct k (j + m) (a * k ^ m + b) v = ct k m b v + ct k j a v
  | 0, b, h => by
    have hb : b = 0 := by rw [Nat.pow_zero] at h; omega
    rw [hb, Nat.pow_zero, Nat.mul_one, Nat.add_zero]
    show ct k j a v = 0 + ct k j a v
    rw [Nat.zero_add]
  | m + 1, b, h => by
    have e1 : a * k ^ (m + 1) + b = k * (a * k ^ m) + b := by rw [Nat.pow_succ, ← Nat.mul_assoc, Nat.mul_comm k]
    have hb : b / k < k ^ m := by rw [Nat.div_lt_iff_lt_mul hk, ← Nat.pow_succ]; exact h
    show ct k (j + m) ((a * k ^ (m + 1) + b) / k) v + (if (a * k ^ (m + 1) + b) % k = v then 1 else 0) = ct k m (b / k) v + (if b % k = v then 1 else 0) + ct k j a v
    rw [e1, Nat.mul_add_div hk, Nat.mul_add_mod, ct_split hk j a v m (b / k) hb]
    omega
theorem ct_tn (ok : okW k n) {w v : Nat} (hw : w < k ^ n) : ct k n (tn k n w) v = ct k n w v := by
  have hk := ok.pos
  obtain ⟨m, rfl⟩ : ∃ m, n = m + 1 := ⟨n - 1, by have := ok.2.2.1; omega⟩
  have hA : w / k ^ m < k := by
    rw [Nat.div_lt_iff_lt_mul (Nat.pow_pos hk), Nat.mul_comm, ← Nat.pow_succ]
    exact hw
  have hB := Nat.mod_lt w (Nat.pow_pos (n := m) hk)
  have e := ct_split hk 1 (w / k ^ m) v m (w % k ^ m) hB
  rw [Nat.mul_comm, Nat.div_add_mod, Nat.add_comm 1 m] at e
  rw [e]
  unfold tn
  rw [Nat.add_sub_cancel]
  have e2 := dm_u (q := w % k ^ m) hA (X := w % k ^ m * k + w / k ^ m) rfl
  show ct k m ((w % k ^ m * k + w / k ^ m) / k) v + (if (w % k ^ m * k + w / k ^ m) % k = v then 1 else 0) = ct k m (w % k ^ m) v + (0 + if w / k ^ m % k = v then 1 else 0)
  rw [e2.1, e2.2, Nat.mod_eq_of_lt hA, Nat.zero_add]
theorem ct_rp {d y v : Nat} (hk : 0 < k) (hy : y < k ^ d) : ∀ q, ct k (q * d) (y * geo (k ^ d) q) v = q * ct k d y v
  | 0 => by rw [Nat.zero_mul, Nat.zero_mul]; rfl
  | q + 1 => by
    have hP : 0 < k ^ d := Nat.pow_pos hk
    have e := geo_eq hP q
    have hb : y * geo (k ^ d) q < k ^ (q * d) := by
      have q1 : y * geo (k ^ d) q ≤ (k ^ d - 1) * geo (k ^ d) q := Nat.mul_le_mul_right _ (by omega)
      rw [Nat.mul_comm (k ^ d - 1)] at q1
      rw [Nat.mul_comm q d, Nat.pow_mul]
      omega
    have e2 : y * geo (k ^ d) (q + 1) = y * k ^ (q * d) + y * geo (k ^ d) q := by
      show y * ((k ^ d) ^ q + geo (k ^ d) q) = _
      rw [Nat.mul_add, ← Nat.pow_mul, Nat.mul_comm q d]
    rw [e2, show (q + 1) * d = d + q * d by rw [Nat.add_mul, Nat.one_mul, Nat.add_comm], ct_split hk d y v (q * d) _ hb, ct_rp hk hy q, Nat.add_mul, Nat.one_mul]
noncomputable def dc (P : Prop) : Bool := @decide P (Classical.propDecidable P)
theorem dc_t {P : Prop} (h : P) : dc P = true := @decide_eq_true P (Classical.propDecidable P) h
theorem dc_f {P : Prop} (h : ¬ P) : dc P = false := @decide_eq_false P (Classical.propDecidable P) h
theorem dc_cg {P Q : Prop} (h : P ↔ Q) : dc P = dc Q := by rw [propext h]
theorem dc_and {P Q : Prop} : (dc P && dc Q) = dc (P ∧ Q) := by
  by_cases hp : P
  · by_cases hq : Q
    · rw [dc_t hp, dc_t hq, dc_t ⟨hp, hq⟩]; rfl
    · rw [dc_t hp, dc_f hq, dc_f (fun z => hq z.2)]; rfl
  · rw [dc_f hp, dc_f (P := P ∧ Q) (fun z => hp z.1)]; rfl
/-- the word has these amounts -/
noncomputable def pc (k n : Nat) (c : Nat → Nat) (w : Nat) : Bool := dc (∀ v, v < 5 → ct k n w v = c v)
theorem pc_tn (ok : okW k n) {c : Nat → Nat} {w : Nat} (hw : w < k ^ n) : pc k n c (tn k n w) = pc k n c w := by
  unfold pc
  apply dc_cg
  exact ⟨fun h v hv => by rw [← ct_tn ok hw]; exact h v hv, fun h v hv => by rw [ct_tn ok hw]; exact h v hv⟩
theorem pc_rp (ok : okW k n) {c : Nat → Nat} {d y : Nat} (hd1 : 1 ≤ d) (hdn : d ≤ n) (hd : n % d = 0) (hy : y < k ^ d) : pc k n c (y * gg k n d) = (dc (∀ v, v < 5 → c v % (n / d) = 0) && pc k d (fun v => c v / (n / d)) y) := by
  have hq : n / d * d = n := Nat.div_mul_cancel (Nat.dvd_of_mod_eq_zero hd)
  have he : 0 < n / d := Nat.div_pos hdn hd1
  have e : ∀ v, ct k n (y * gg k n d) v = n / d * ct k d y v := fun v => by
    have := ct_rp (v := v) ok.pos hy (n / d)
    rw [hq] at this
    exact this
  unfold pc
  rw [dc_and]
  apply dc_cg
  constructor
  · intro h
    refine ⟨fun v hv => ?_, fun v hv => ?_⟩
    · rw [← h v hv, e v, Nat.mul_mod_right]
    · show ct k d y v = c v / (n / d)
      rw [← h v hv, e v]
      exact (Nat.mul_div_cancel_left _ he).symm
  · intro ⟨h1, h2⟩ v hv
    rw [e v, h2 v hv]
    exact Nat.mul_div_cancel' (Nat.dvd_of_mod_eq_zero (h1 v hv))
theorem cs_su {p : Nat → Bool} : ∀ M, cs p M = su (fun x => (p x).toNat) M
  | 0 => rfl
  | M + 1 => by show cs p M + _ = su _ M + _; rw [cs_su M]
theorem su_app {F : Nat → Nat} (a : Nat) : ∀ b, su F (a + b) = su F a + su (fun i => F (a + i)) b
  | 0 => rfl
  | b + 1 => by
    show su F (a + b) + F (a + b) = su F a + (su (fun i => F (a + i)) b + F (a + b))
    rw [su_app a b]
    omega
theorem su_mul {F : Nat → Nat} {k : Nat} : ∀ M, su F (M * k) = su (fun z => su (fun a => F (z * k + a)) k) M
  | 0 => by rw [Nat.zero_mul]; rfl
  | M + 1 => by
    rw [Nat.add_mul, Nat.one_mul, su_app, su_mul M]
    rfl
theorem su_plus {F H : Nat → Nat} (q : Nat) : su (fun i => F i + H i) q = su F q + su H q := su_add q (fun _ _ => rfl)
theorem su_swap {F : Nat → Nat → Nat} (k : Nat) : ∀ M, su (fun z => su (fun a => F z a) k) M = su (fun a => su (fun z => F z a) M) k
  | 0 => (su_0 k (fun _ _ => rfl)).symm
  | M + 1 => by
    show su (fun z => su (fun a => F z a) k) M + su (fun a => F M a) k = _
    rw [su_swap k M, ← su_plus]
    rfl
def cm (c : Nat → Nat) (a : Nat) : Nat → Nat := fun v => if v = a then c v - 1 else c v
theorem pc_s (hk : k ≤ 5) {c : Nat → Nat} {z a : Nat} (ha : a < k) : pc k (n + 1) c (z * k + a) = (dc (0 < c a) && pc k n (cm c a) z) := by
  have e := dm_u (q := z) ha (X := z * k + a) rfl
  have ec : ∀ v, ct k (n + 1) (z * k + a) v = ct k n z v + if a = v then 1 else 0 := fun v => by
    show ct k n ((z * k + a) / k) v + (if (z * k + a) % k = v then 1 else 0) = _
    rw [e.1, e.2]
  unfold pc
  rw [dc_and]
  apply dc_cg
  constructor
  · intro h
    have h1 := h a (by omega)
    rw [ec, if_pos rfl] at h1
    refine ⟨by omega, fun v hv => ?_⟩
    have h2 := h v hv
    rw [ec] at h2
    unfold cm
    by_cases hva : v = a
    · rw [if_pos hva.symm] at h2
      rw [if_pos hva]
      omega
    · rw [if_neg (fun q => hva q.symm)] at h2
      rw [if_neg hva]
      exact h2
  · intro ⟨h0, h⟩ v hv
    have h2 := h v hv
    unfold cm at h2
    rw [ec]
    by_cases hva : v = a
    · rw [if_pos hva] at h2
      rw [if_pos hva.symm, h2]
      rw [hva]
      omega
    · rw [if_neg hva] at h2
      rw [if_neg (fun q => hva q.symm)]
      exact h2
/-- how many words have these amounts: by the last letter -/
noncomputable def bf (d : Nat) : Nat → Nat → Nat → Nat → Nat → Nat :=
  Nat.rec (fun c0 c1 c2 c3 c4 => cond (Nat.beq (c0 + c1 + c2 + c3 + c4) 0) 1 0)
    (fun _ ih c0 c1 c2 c3 c4 => Nat.rec 0 (fun i _ => ih i c1 c2 c3 c4) c0 + Nat.rec 0 (fun i _ => ih c0 i c2 c3 c4) c1 + Nat.rec 0 (fun i _ => ih c0 c1 i c3 c4) c2 + Nat.rec 0 (fun i _ => ih c0 c1 c2 i c4) c3 + Nat.rec 0 (fun i _ => ih c0 c1 c2 c3 i) c4) d
theorem rec_if {F : Nat → Nat} (c : Nat) : (Nat.rec 0 (fun i _ => F i) c : Nat) = if 0 < c then F (c - 1) else 0 := by
  cases c with
  | zero => rfl
  | succ i => rw [if_pos (Nat.succ_pos i)]; rfl
theorem bf_s (d c0 c1 c2 c3 c4 : Nat) : bf (d + 1) c0 c1 c2 c3 c4 = (if 0 < c0 then bf d (c0 - 1) c1 c2 c3 c4 else 0) + (if 0 < c1 then bf d c0 (c1 - 1) c2 c3 c4 else 0) + (if 0 < c2 then bf d c0 c1 (c2 - 1) c3 c4 else 0) + (if 0 < c3 then bf d c0 c1 c2 (c3 - 1) c4 else 0) + (if 0 < c4 then bf d c0 c1 c2 c3 (c4 - 1) else 0) := by
  rw [← rec_if (F := fun i => bf d i c1 c2 c3 c4), ← rec_if (F := fun i => bf d c0 i c2 c3 c4), ← rec_if (F := fun i => bf d c0 c1 i c3 c4), ← rec_if (F := fun i => bf d c0 c1 c2 i c4), ← rec_if (F := fun i => bf d c0 c1 c2 c3 i)]
  rfl
theorem bf_eq (hk : 0 < k) (hk5 : k ≤ 5) : ∀ d (c : Nat → Nat), (∀ v, k ≤ v → v < 5 → c v = 0) → cs (pc k d c) (k ^ d) = bf d (c 0) (c 1) (c 2) (c 3) (c 4)
  | 0, c, hc => by
    show 0 + (pc k 0 c 0).toNat = cond (Nat.beq (c 0 + c 1 + c 2 + c 3 + c 4) 0) 1 0
    by_cases e : c 0 + c 1 + c 2 + c 3 + c 4 = 0
    · rw [beq_t e]
      have : pc k 0 c 0 = true := dc_t (fun v hv => by
        show 0 = c v
        match v, hv with
        | 0, _ => omega
        | 1, _ => omega
        | 2, _ => omega
        | 3, _ => omega
        | 4, _ => omega)
      rw [this]
      rfl
    · rw [beq_f e]
      have : pc k 0 c 0 = false := dc_f (fun h => e (by
        have h0 : 0 = c 0 := h 0 (by omega)
        have h1 : 0 = c 1 := h 1 (by omega)
        have h2 : 0 = c 2 := h 2 (by omega)
        have h3 : 0 = c 3 := h 3 (by omega)
        have h4 : 0 = c 4 := h 4 (by omega)
        omega))
      rw [this]
      rfl
  | d + 1, c, hc => by
    rw [cs_su, Nat.pow_succ, su_mul, su_swap]
    have e1 : ∀ a, a < 5 → (if a < k then su (fun z => (pc k (d + 1) c (z * k + a)).toNat) (k ^ d) else 0) = if 0 < c a then bf d (cm c a 0) (cm c a 1) (cm c a 2) (cm c a 3) (cm c a 4) else 0 := by
      intro a ha
      by_cases hak : a < k
      · rw [if_pos hak]
        by_cases h0 : 0 < c a
        · rw [if_pos h0, ← bf_eq hk hk5 d (cm c a) (fun v h1 h2 => by
            have := hc v h1 h2
            unfold cm
            split <;> omega), cs_su]
          refine su_cg _ (fun z _ => ?_)
          rw [pc_s hk5 hak, dc_t h0]
          rfl
        · rw [if_neg h0]
          refine su_0 _ (fun z _ => ?_)
          rw [pc_s hk5 hak, dc_f h0]
          rfl
      · rw [if_neg hak, if_neg (by rw [hc a (by omega) ha]; exact Nat.lt_irrefl 0)]
    have e2 : ∀ j, su (fun a => su (fun z => (pc k (d + 1) c (z * k + a)).toNat) (k ^ d)) k = su (fun a => if a < k then su (fun z => (pc k (d + 1) c (z * k + a)).toNat) (k ^ d) else 0) (k + j) := by
      intro j
      induction j with
      | zero => exact su_cg k (fun a ha => (if_pos ha).symm)
      | succ j ih =>
        rw [ih]
        show _ = su _ (k + j) + (if k + j < k then _ else 0)
        rw [if_neg (by omega)]
        rfl
    have e3 := e2 (5 - k)
    rw [show k + (5 - k) = 5 by omega] at e3
    rw [e3, su_cg 5 e1, bf_s]
    show 0 + (if 0 < c 0 then bf d (c 0 - 1) (c 1) (c 2) (c 3) (c 4) else 0) + (if 0 < c 1 then bf d (c 0) (c 1 - 1) (c 2) (c 3) (c 4) else 0) + (if 0 < c 2 then bf d (c 0) (c 1) (c 2 - 1) (c 3) (c 4) else 0) + (if 0 < c 3 then bf d (c 0) (c 1) (c 2) (c 3 - 1) (c 4) else 0) + (if 0 < c 4 then bf d (c 0) (c 1) (c 2) (c 3) (c 4 - 1) else 0) = _
    rw [Nat.zero_add]
end CTT
