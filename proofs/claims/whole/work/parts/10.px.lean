/-! polynomials over two elements, as numbers: bit k is that of x^k; their sum is ^^^, their product px_m; px_dv f a: f divides a -/
def px_m (a b : Nat) : Nat := if b = 0 then 0 else (2 * px_m a (b / 2)) ^^^ (if b % 2 = 1 then a else 0)
termination_by b
decreasing_by omega
theorem px_bin {P : Nat → Prop} (h0 : P 0) (h : ∀ b, P b → P (2 * b)) (h1 : ∀ b, P b → P (2 * b + 1)) : ∀ b, P b := by
  intro b
  induction b using Nat.strongRecOn with
  | _ b ih =>
    by_cases hb : b = 0
    · subst hb; exact h0
    · rcases Nat.mod_two_eq_zero_or_one b with e | e
      · have := h (b / 2) (ih (b / 2) (by omega))
        rwa [show 2 * (b / 2) = b by omega] at this
      · have := h1 (b / 2) (ih (b / 2) (by omega))
        rwa [show 2 * (b / 2) + 1 = b by omega] at this
theorem px_dbl (u v : Nat) : 2 * (u ^^^ v) = 2 * u ^^^ 2 * v := by
  have := @Nat.shiftLeft_xor_distrib 1 u v
  simpa [Nat.shiftLeft_eq, Nat.mul_comm] using this
theorem px_d1 (u : Nat) : 2 * u ^^^ 1 = 2 * u + 1 := by
  have h1 : (2 * u ^^^ 1) / 2 = u := by
    rw [Nat.xor_div_two, show 2 * u / 2 = u by omega]
    simp
  have h2 : (2 * u ^^^ 1) % 2 = 1 := by
    rw [Nat.xor_mod_two_eq_one]
    omega
  omega
theorem px_cc (a b : Nat) : a ^^^ b ^^^ b = a := by rw [Nat.xor_assoc, Nat.xor_self, Nat.xor_zero]
theorem px_eq0 {a b : Nat} (h : a ^^^ b = 0) : a = b := by
  have := px_cc a b
  rw [h, Nat.zero_xor] at this
  exact this.symm
theorem px_m_zero (a : Nat) : px_m a 0 = 0 := by rw [px_m]; simp
theorem px_m_dbl (a b : Nat) : px_m a (2 * b) = 2 * px_m a b := by
  by_cases hb : b = 0
  · subst hb; simp [px_m_zero]
  · rw [px_m, if_neg (by omega), show 2 * b / 2 = b by omega, if_neg (by omega)]
    simp
theorem px_m_odd (a b : Nat) : px_m a (2 * b + 1) = 2 * px_m a b ^^^ a := by
  rw [px_m, if_neg (by omega), show (2 * b + 1) / 2 = b by omega, if_pos (by omega)]
theorem px_m_zero_left (b : Nat) : px_m 0 b = 0 := by
  induction b using px_bin with
  | h0 => exact px_m_zero 0
  | h b ih => rw [px_m_dbl, ih]
  | h1 b ih => rw [px_m_odd, ih]; simp
theorem px_m_xor_left (a c b : Nat) : px_m (a ^^^ c) b = px_m a b ^^^ px_m c b := by
  induction b using px_bin with
  | h0 => simp [px_m_zero]
  | h b ih => rw [px_m_dbl, px_m_dbl, px_m_dbl, ih, px_dbl]
  | h1 b ih => rw [px_m_odd, px_m_odd, px_m_odd, ih, px_dbl]; ac_rfl
theorem px_m_dbl_left (a b : Nat) : px_m (2 * a) b = 2 * px_m a b := by
  induction b using px_bin with
  | h0 => simp [px_m_zero]
  | h b ih => rw [px_m_dbl, px_m_dbl, ih]
  | h1 b ih => rw [px_m_odd, px_m_odd, ih, px_dbl]
theorem px_m_one_left (b : Nat) : px_m 1 b = b := by
  induction b using px_bin with
  | h0 => exact px_m_zero 1
  | h b ih => rw [px_m_dbl, ih]
  | h1 b ih => rw [px_m_odd, ih, px_d1]
theorem px_m_one (a : Nat) : px_m a 1 = a := by
  have := px_m_odd a 0
  simpa [px_m_zero] using this
theorem px_m_odd_left (a b : Nat) : px_m (2 * a + 1) b = 2 * px_m a b ^^^ b := by
  rw [← px_d1, px_m_xor_left, px_m_dbl_left, px_m_one_left]
theorem px_m_comm (a b : Nat) : px_m a b = px_m b a := by
  induction b using px_bin with
  | h0 => rw [px_m_zero, px_m_zero_left]
  | h b ih => rw [px_m_dbl, px_m_dbl_left, ih]
  | h1 b ih => rw [px_m_odd, px_m_odd_left, ih]
theorem px_m_xor_right (a b c : Nat) : px_m a (b ^^^ c) = px_m a b ^^^ px_m a c := by
  rw [px_m_comm, px_m_xor_left, px_m_comm b a, px_m_comm c a]
theorem px_m_assoc (a b c : Nat) : px_m (px_m a b) c = px_m a (px_m b c) := by
  induction c using px_bin with
  | h0 => simp [px_m_zero]
  | h c ih => rw [px_m_dbl, px_m_dbl, px_m_dbl, ih]
  | h1 c ih => rw [px_m_odd, px_m_odd, px_m_xor_right, px_m_dbl, ih]
theorem px_m_left_comm (a b c : Nat) : px_m a (px_m b c) = px_m b (px_m a c) := by
  rw [← px_m_assoc, px_m_comm a b, px_m_assoc]
theorem px_m_two (a : Nat) : px_m a 2 = 2 * a := by
  have := px_m_dbl a 1
  rw [px_m_one] at this
  exact this
theorem px_m_pow2 (a k : Nat) : px_m a (2 ^ k) = a * 2 ^ k := by
  induction k with
  | zero => simpa using px_m_one a
  | succ k ih => rw [Nat.pow_succ, Nat.mul_comm (2 ^ k) 2, px_m_dbl, ih, Nat.mul_left_comm]
/-! degrees -/
theorem px_top {u v k : Nat} (h1 : 2 ^ k ≤ u) (h2 : u < 2 ^ (k + 1)) (h3 : v < 2 ^ k) : 2 ^ k ≤ u ^^^ v ∧ u ^^^ v < 2 ^ (k + 1) := by
  have hk : 2 ^ (k + 1) = 2 * 2 ^ k := by rw [Nat.pow_succ, Nat.mul_comm]
  refine ⟨?_, Nat.xor_lt_two_pow h2 (by omega)⟩
  apply Nat.ge_two_pow_of_testBit
  rw [Nat.testBit_xor, Nat.testBit_lt_two_pow h3, Nat.testBit_of_two_pow_le_and_two_pow_add_one_gt h1 h2]
  rfl
theorem px_tops {u v k : Nat} (h1 : 2 ^ k ≤ u) (h2 : u < 2 ^ (k + 1)) (h3 : 2 ^ k ≤ v) (h4 : v < 2 ^ (k + 1)) : u ^^^ v < 2 ^ k := by
  apply Nat.lt_pow_two_of_testBit
  intro i hi
  rw [Nat.testBit_xor]
  by_cases hik : i = k
  · subst hik
    rw [Nat.testBit_of_two_pow_le_and_two_pow_add_one_gt h1 h2, Nat.testBit_of_two_pow_le_and_two_pow_add_one_gt h3 h4]
    rfl
  · have hle : 2 ^ (k + 1) ≤ 2 ^ i := Nat.pow_le_pow_right (by decide) (by omega)
    rw [Nat.testBit_lt_two_pow (Nat.lt_of_lt_of_le h2 hle), Nat.testBit_lt_two_pow (Nat.lt_of_lt_of_le h4 hle)]
    rfl
theorem px_deg {a b i j : Nat} (ha : 2 ^ i ≤ a) (ha' : a < 2 ^ (i + 1)) (hb : 2 ^ j ≤ b) (hb' : b < 2 ^ (j + 1)) : 2 ^ (i + j) ≤ px_m a b ∧ px_m a b < 2 ^ (i + j + 1) := by
  induction j generalizing b with
  | zero =>
    have : b = 1 := by simp at hb hb'; omega
    subst this
    rw [px_m_one]
    exact ⟨ha, ha'⟩
  | succ j ih =>
    have e1 : 2 ^ (j + 1) = 2 * 2 ^ j := by rw [Nat.pow_succ, Nat.mul_comm]
    have e2 : 2 ^ (j + 1 + 1) = 2 * 2 ^ (j + 1) := by rw [Nat.pow_succ, Nat.mul_comm]
    have e3 : 2 ^ (i + (j + 1)) = 2 * 2 ^ (i + j) := by rw [← Nat.add_assoc, Nat.pow_succ, Nat.mul_comm]
    have e4 : 2 ^ (i + (j + 1) + 1) = 2 * 2 ^ (i + (j + 1)) := by rw [Nat.pow_succ, Nat.mul_comm]
    have e5 : 2 ^ (i + j + 1) = 2 * 2 ^ (i + j) := by rw [Nat.pow_succ, Nat.mul_comm]
    obtain ⟨q1, q2⟩ := ih (b := b / 2) (by omega) (by omega)
    rcases Nat.mod_two_eq_zero_or_one b with e | e
    · rw [show b = 2 * (b / 2) by omega, px_m_dbl]
      omega
    · rw [show b = 2 * (b / 2) + 1 by omega, px_m_odd]
      have hle : 2 ^ (i + 1) ≤ 2 ^ (i + (j + 1)) := Nat.pow_le_pow_right (by decide) (by omega)
      exact px_top (by omega) (by omega) (by omega)
theorem px_lg1 {a : Nat} (h : a ≠ 0) : 2 ^ a.log2 ≤ a := Nat.log2_self_le h
theorem px_lg2 (a : Nat) : a < 2 ^ (a.log2 + 1) := Nat.lt_log2_self
theorem px_lg {a i : Nat} (h1 : 2 ^ i ≤ a) (h2 : a < 2 ^ (i + 1)) : a.log2 = i :=
  (Nat.log2_eq_iff (by have := Nat.two_pow_pos i; omega)).2 ⟨h1, h2⟩
theorem px_ne0 {a b : Nat} (ha : a ≠ 0) (hb : b ≠ 0) : px_m a b ≠ 0 := by
  have := (px_deg (px_lg1 ha) (px_lg2 a) (px_lg1 hb) (px_lg2 b)).1
  have := Nat.two_pow_pos (a.log2 + b.log2)
  omega
theorem px_zero {a b : Nat} (h : px_m a b = 0) : a = 0 ∨ b = 0 := by
  by_cases ha : a = 0
  · exact Or.inl ha
  · by_cases hb : b = 0
    · exact Or.inr hb
    · exact absurd h (px_ne0 ha hb)
theorem px_log {a b : Nat} (ha : a ≠ 0) (hb : b ≠ 0) : (px_m a b).log2 = a.log2 + b.log2 :=
  px_lg (px_deg (px_lg1 ha) (px_lg2 a) (px_lg1 hb) (px_lg2 b)).1 (px_deg (px_lg1 ha) (px_lg2 a) (px_lg1 hb) (px_lg2 b)).2
theorem px_cancel {a b c : Nat} (ha : a ≠ 0) (h : px_m a b = px_m a c) : b = c := by
  have h1 : px_m a (b ^^^ c) = 0 := by rw [px_m_xor_right, h, Nat.xor_self]
  rcases px_zero h1 with e | e
  · exact absurd e ha
  · exact px_eq0 e
theorem px_div {b j : Nat} (hb : 2 ^ j ≤ b) (hb' : b < 2 ^ (j + 1)) : ∀ a : Nat, ∃ q r, a = px_m q b ^^^ r ∧ r < 2 ^ j := by
  intro a
  induction a using Nat.strongRecOn with
  | _ a ih =>
    by_cases h : a < 2 ^ j
    · exact ⟨0, a, by rw [px_m_zero_left, Nat.zero_xor], h⟩
    · have ha0 : a ≠ 0 := by have := Nat.two_pow_pos j; omega
      have hji : j ≤ a.log2 := (Nat.le_log2 ha0).2 (by omega)
      have hd := px_deg (a := 2 ^ (a.log2 - j)) (b := b) (i := a.log2 - j) (j := j) (Nat.le_refl _) (Nat.pow_lt_pow_right (by decide) (by omega)) hb hb'
      rw [show a.log2 - j + j = a.log2 by omega] at hd
      have hlt := px_tops (px_lg1 ha0) (px_lg2 a) hd.1 hd.2
      obtain ⟨q, r, e, hr⟩ := ih (a ^^^ px_m (2 ^ (a.log2 - j)) b) (Nat.lt_of_lt_of_le hlt (px_lg1 ha0))
      refine ⟨q ^^^ 2 ^ (a.log2 - j), r, ?_, hr⟩
      have e2 := px_cc a (px_m (2 ^ (a.log2 - j)) b)
      rw [e] at e2
      refine e2.symm.trans ?_
      rw [px_m_xor_left]
      ac_rfl
/-! divisors -/
def px_dv (f a : Nat) : Prop := ∃ q, a = px_m f q
theorem px_dv_refl (f : Nat) : px_dv f f := ⟨1, (px_m_one f).symm⟩
theorem px_dv_zero (f : Nat) : px_dv f 0 := ⟨0, (px_m_zero f).symm⟩
theorem px_dv_one (a : Nat) : px_dv 1 a := ⟨a, (px_m_one_left a).symm⟩
theorem px_dv_trans {f g a : Nat} (h1 : px_dv f g) (h2 : px_dv g a) : px_dv f a := by
  obtain ⟨q, rfl⟩ := h1
  obtain ⟨r, rfl⟩ := h2
  exact ⟨px_m q r, px_m_assoc f q r⟩
theorem px_dv_xor {f a b : Nat} (h1 : px_dv f a) (h2 : px_dv f b) : px_dv f (a ^^^ b) := by
  obtain ⟨q, rfl⟩ := h1
  obtain ⟨r, rfl⟩ := h2
  exact ⟨q ^^^ r, (px_m_xor_right f q r).symm⟩
theorem px_dv_ml {f a : Nat} (h : px_dv f a) (b : Nat) : px_dv f (px_m a b) := by
  obtain ⟨q, rfl⟩ := h
  exact ⟨px_m q b, px_m_assoc f q b⟩
theorem px_dv_mr {f a : Nat} (h : px_dv f a) (b : Nat) : px_dv f (px_m b a) := by
  rw [px_m_comm]
  exact px_dv_ml h b
theorem px_dv_m (f b : Nat) : px_dv f (px_m f b) := ⟨b, rfl⟩
theorem px_dv_m' (f b : Nat) : px_dv f (px_m b f) := ⟨b, px_m_comm b f⟩
theorem px_dv_of {f a b : Nat} (h : px_dv f (a ^^^ b)) (h2 : px_dv f b) : px_dv f a := by
  have := px_dv_xor h h2
  rwa [px_cc] at this
theorem px_dv_small {f a j : Nat} (h : px_dv f a) (ha : a < 2 ^ j) (hf : 2 ^ j ≤ f) : a = 0 := by
  obtain ⟨q, rfl⟩ := h
  by_cases hq : q = 0
  · subst hq; exact px_m_zero f
  · have hf0 : f ≠ 0 := by have := Nat.two_pow_pos j; omega
    have h1 := px_log hf0 hq
    have h2 : j ≤ f.log2 := (Nat.le_log2 hf0).2 hf
    have h3 := px_lg1 (px_ne0 hf0 hq)
    have h4 : 2 ^ j ≤ 2 ^ (px_m f q).log2 := Nat.pow_le_pow_right (by decide) (by omega)
    omega
theorem px_dv_le {f a : Nat} (h : px_dv f a) (ha : a ≠ 0) : f ≠ 0 ∧ f.log2 ≤ a.log2 := by
  obtain ⟨q, rfl⟩ := h
  have hf : f ≠ 0 := fun e => ha (by rw [e, px_m_zero_left])
  have hq : q ≠ 0 := fun e => ha (by rw [e, px_m_zero])
  refine ⟨hf, ?_⟩
  rw [px_log hf hq]
  omega
theorem px_dv_unit {f : Nat} (h : px_dv f 1) : f = 1 := by
  obtain ⟨hf, hl⟩ := px_dv_le h (by decide)
  have h1 : Nat.log2 1 = 0 := px_lg (i := 0) (by decide) (by decide)
  have h0 : f.log2 = 0 := by omega
  have h2 := px_lg2 f
  rw [h0] at h2
  simp at h2
  omega
theorem px_dv_anti {f g : Nat} (h1 : px_dv f g) (h2 : px_dv g f) : f = g := by
  obtain ⟨q, e⟩ := h1
  by_cases hf : f = 0
  · rw [e, hf, px_m_zero_left]
  · obtain ⟨r, e2⟩ := h2
    rw [e, px_m_assoc] at e2
    have e3 : px_m f 1 = px_m f (px_m q r) := by rw [px_m_one]; exact e2
    have e4 := px_cancel hf e3
    have hq : q = 1 := px_dv_unit ⟨r, e4⟩
    rw [e, hq, px_m_one]
/-! congruence: px_dv p (a ^^^ b) -/
def px_cg (p a b : Nat) : Prop := px_dv p (a ^^^ b)
theorem px_cg_refl (p a : Nat) : px_cg p a a := by unfold px_cg; rw [Nat.xor_self]; exact px_dv_zero p
theorem px_cg_of {p a b : Nat} (h : a = b) : px_cg p a b := h ▸ px_cg_refl p a
theorem px_cg_symm {p a b : Nat} (h : px_cg p a b) : px_cg p b a := by unfold px_cg at *; rwa [Nat.xor_comm]
theorem px_cg_trans {p a b c : Nat} (h : px_cg p a b) (h2 : px_cg p b c) : px_cg p a c := by
  have := px_dv_xor h h2
  unfold px_cg
  rwa [← Nat.xor_assoc, px_cc] at this
theorem px_cg_xor {p a b c d : Nat} (h : px_cg p a b) (h2 : px_cg p c d) : px_cg p (a ^^^ c) (b ^^^ d) := by
  have := px_dv_xor h h2
  unfold px_cg
  rwa [show a ^^^ c ^^^ (b ^^^ d) = a ^^^ b ^^^ (c ^^^ d) by ac_rfl]
theorem px_cg_m {p a b c d : Nat} (h : px_cg p a b) (h2 : px_cg p c d) : px_cg p (px_m a c) (px_m b d) := by
  have h3 : px_cg p (px_m a c) (px_m b c) := by unfold px_cg; rw [← px_m_xor_left]; exact px_dv_ml h c
  have h4 : px_cg p (px_m b c) (px_m b d) := by unfold px_cg; rw [← px_m_xor_right]; exact px_dv_mr h2 b
  exact px_cg_trans h3 h4
theorem px_cg_dv {p a b : Nat} (h : px_cg p a b) (h2 : px_dv p b) : px_dv p a := px_dv_of h h2
theorem px_cg_down {f p a b : Nat} (hf : px_dv f p) (h : px_cg p a b) : px_cg f a b := px_dv_trans hf h
theorem px_uniq {p n a b : Nat} (hp : 2 ^ n ≤ p) (ha : a < 2 ^ n) (hb : b < 2 ^ n) (h : px_cg p a b) : a = b :=
  px_eq0 (px_dv_small h (Nat.xor_lt_two_pow ha hb) hp)
/-! powers -/
def px_pw (a : Nat) : Nat → Nat
  | 0 => 1
  | n + 1 => px_m (px_pw a n) a
theorem px_pw_one (a : Nat) : px_pw a 1 = a := px_m_one_left a
theorem px_pw_add (a m n : Nat) : px_pw a (m + n) = px_m (px_pw a m) (px_pw a n) := by
  induction n with
  | zero => exact (px_m_one _).symm
  | succ n ih => rw [← Nat.add_assoc]; show px_m (px_pw a (m + n)) a = _; rw [ih, px_m_assoc]; rfl
theorem px_pw_mm (a b n : Nat) : px_pw (px_m a b) n = px_m (px_pw a n) (px_pw b n) := by
  induction n with
  | zero => exact (px_m_one 1).symm
  | succ n ih =>
    show px_m (px_pw (px_m a b) n) (px_m a b) = px_m (px_m (px_pw a n) a) (px_m (px_pw b n) b)
    rw [ih, px_m_assoc, px_m_assoc, px_m_left_comm (px_pw b n) a b]
theorem px_pw_one_left (n : Nat) : px_pw 1 n = 1 := by
  induction n with
  | zero => rfl
  | succ n ih => show px_m (px_pw 1 n) 1 = 1; rw [px_m_one, ih]
theorem px_pw_mul (a m n : Nat) : px_pw a (m * n) = px_pw (px_pw a m) n := by
  induction n with
  | zero => rfl
  | succ n ih => rw [Nat.mul_succ, px_pw_add, ih]; rfl
theorem px_pw_dbl (a n : Nat) : px_pw a (2 * n) = px_m (px_pw a n) (px_pw a n) := by
  rw [show 2 * n = n + n by omega, px_pw_add]
theorem px_sq (a b : Nat) : px_m (a ^^^ b) (a ^^^ b) = px_m a a ^^^ px_m b b := by
  rw [px_m_xor_left, px_m_xor_right, px_m_xor_right, px_m_comm b a]
  generalize px_m a b = z
  rw [show px_m a a ^^^ z ^^^ (z ^^^ px_m b b) = px_m a a ^^^ px_m b b ^^^ z ^^^ z by ac_rfl, px_cc]
theorem px_frob (a b k : Nat) : px_pw (a ^^^ b) (2 ^ k) = px_pw a (2 ^ k) ^^^ px_pw b (2 ^ k) := by
  induction k with
  | zero => simp only [Nat.pow_zero, px_pw_one]
  | succ k ih => rw [Nat.pow_succ, Nat.mul_comm, px_pw_dbl, px_pw_dbl, px_pw_dbl, ih, px_sq]
theorem px_cg_pw {p a b : Nat} (h : px_cg p a b) (n : Nat) : px_cg p (px_pw a n) (px_pw b n) := by
  induction n with
  | zero => exact px_cg_refl p 1
  | succ n ih => exact px_cg_m ih h
theorem px_pw_two (k : Nat) : px_pw 2 k = 2 ^ k := by
  induction k with
  | zero => rfl
  | succ k ih => show px_m (px_pw 2 k) 2 = _; rw [px_m_two, ih, Nat.pow_succ, Nat.mul_comm]
