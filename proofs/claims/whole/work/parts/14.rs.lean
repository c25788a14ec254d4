/-! residues: px_r p a is what a leaves when divided by p -/
def md (p n : Nat) : Prop := 1 ≤ n ∧ n ≤ 32 ∧ 2 ^ n ≤ p ∧ p < 2 ^ (n + 1) ∧ p % 2 = 1
theorem md_ne {p n : Nat} (h : md p n) : p ≠ 0 := by
  have := h.2.2.1
  have := Nat.two_pow_pos n
  omega
theorem px_r_ex (p a : Nat) (hp : p ≠ 0) : ∃ r, r < 2 ^ p.log2 ∧ px_cg p r a := by
  obtain ⟨q, r, e, hr⟩ := px_div (px_lg1 hp) (px_lg2 p) a
  refine ⟨r, hr, ?_⟩
  unfold px_cg
  rw [e, Nat.xor_comm (px_m q p) r, ← Nat.xor_assoc, Nat.xor_self, Nat.zero_xor]
  exact px_dv_m' p q
noncomputable def px_r (p a : Nat) : Nat := if h : p ≠ 0 then Classical.choose (px_r_ex p a h) else 0
theorem px_r_spec {p : Nat} (hp : p ≠ 0) (a : Nat) : px_r p a < 2 ^ p.log2 ∧ px_cg p (px_r p a) a := by
  unfold px_r
  rw [dif_pos hp]
  exact Classical.choose_spec (px_r_ex p a hp)
theorem px_r_lt {p n : Nat} (h : md p n) (a : Nat) : px_r p a < 2 ^ n := by
  have := (px_r_spec (md_ne h) a).1
  rwa [px_lg h.2.2.1 h.2.2.2.1] at this
theorem px_r_cg {p n : Nat} (h : md p n) (a : Nat) : px_cg p (px_r p a) a := (px_r_spec (md_ne h) a).2
theorem px_r_of {p n : Nat} (h : md p n) {r a : Nat} (hr : r < 2 ^ n) (hc : px_cg p r a) : px_r p a = r :=
  px_uniq h.2.2.1 (px_r_lt h a) hr (px_cg_trans (px_r_cg h a) (px_cg_symm hc))
theorem px_r_iff {p n : Nat} (h : md p n) (a b : Nat) : px_r p a = px_r p b ↔ px_cg p a b :=
  ⟨fun e => px_cg_trans (px_cg_symm (px_r_cg h a)) (e ▸ px_r_cg h b), fun c => px_r_of h (px_r_lt h b) (px_cg_trans (px_r_cg h b) (px_cg_symm c))⟩
theorem px_r_self {p n : Nat} (h : md p n) {a : Nat} (ha : a < 2 ^ n) : px_r p a = a := px_r_of h ha (px_cg_refl p a)
theorem px_r_r {p n : Nat} (h : md p n) (a : Nat) : px_r p (px_r p a) = px_r p a := px_r_self h (px_r_lt h a)
theorem px_r_xor {p n : Nat} (h : md p n) (a b : Nat) : px_r p (a ^^^ b) = px_r p a ^^^ px_r p b :=
  px_r_of h (Nat.xor_lt_two_pow (px_r_lt h a) (px_r_lt h b)) (px_cg_xor (px_r_cg h a) (px_r_cg h b))
theorem px_r_ml {p n : Nat} (h : md p n) (a b : Nat) : px_r p (px_m (px_r p a) b) = px_r p (px_m a b) :=
  (px_r_iff h _ _).2 (px_cg_m (px_r_cg h a) (px_cg_refl p b))
theorem px_r_mr {p n : Nat} (h : md p n) (a b : Nat) : px_r p (px_m a (px_r p b)) = px_r p (px_m a b) :=
  (px_r_iff h _ _).2 (px_cg_m (px_cg_refl p a) (px_r_cg h b))
theorem px_r_pw {p n : Nat} (h : md p n) (a k : Nat) : px_r p (px_pw (px_r p a) k) = px_r p (px_pw a k) :=
  (px_r_iff h _ _).2 (px_cg_pw (px_r_cg h a) k)
theorem px_r_2 {p n : Nat} (h : md p n) (a : Nat) : px_r p (2 * px_r p a) = px_r p (2 * a) := by
  rw [← px_m_two, ← px_m_two, px_r_ml h]
theorem md_odd1 {p n : Nat} (h : md p n) : px_r p 1 = 1 := px_r_self h (by
  have : 2 ^ 1 ≤ 2 ^ n := Nat.pow_le_pow_right (by decide) h.1
  omega)
/-- a step of the register -/
theorem st_eq {p n : Nat} (h : md p n) {a : Nat} (ha : a < 2 ^ n) : (if 2 * a / 2 ^ n % 2 = 1 then 2 * a ^^^ p else 2 * a) = px_r p (2 * a) := by
  have h3 := h.2.2.1
  have h4 := h.2.2.2.1
  by_cases hc : 2 * a < 2 ^ n
  · have e : 2 * a / 2 ^ n = 0 := Nat.div_eq_of_lt hc
    rw [e, if_neg (by decide), px_r_self h hc]
  · have e : 2 * a / 2 ^ n = 1 := by
      rw [Nat.div_eq_iff (Nat.two_pow_pos n)]
      omega
    rw [e, if_pos (by decide)]
    refine (px_r_of h (px_tops (by omega) (by rw [Nat.pow_succ]; omega) h3 h4) ?_).symm
    unfold px_cg
    rw [Nat.xor_comm (2 * a) p, px_cc]
    exact px_dv_refl p
/-- one turn of a product, from the highest bit down -/
theorem pd_turn {p n : Nat} (h : md p n) (a b k : Nat) (ha : a < 2 ^ n) : (if b / 2 ^ k % 2 = 1 then px_r p (2 * px_r p (px_m a (b / 2 ^ (k + 1)))) ^^^ a else px_r p (2 * px_r p (px_m a (b / 2 ^ (k + 1))))) = px_r p (px_m a (b / 2 ^ k)) := by
  have e : b / 2 ^ (k + 1) = b / 2 ^ k / 2 := by rw [Nat.pow_succ, Nat.div_div_eq_div_mul]
  rw [e, px_r_2 h]
  generalize b / 2 ^ k = c
  split
  · rename_i hc
    conv => rhs; rw [show c = 2 * (c / 2) + 1 by omega, px_m_odd, px_r_xor h, px_r_self h ha]
  · rename_i hc
    conv => rhs; rw [show c = 2 * (c / 2) by omega, px_m_dbl]
theorem pd_top {p n : Nat} (h : md p n) (a b : Nat) (hb : b < 2 ^ n) : px_r p (px_m a (b / 2 ^ n)) = 0 := by
  rw [Nat.div_eq_of_lt hb, px_m_zero, px_r_self h (Nat.two_pow_pos n)]
/-- powers from the lowest bit up: what is there, and the square -/
theorem pw_low (a e k : Nat) : px_pw a (e % 2 ^ (k + 1)) = if e / 2 ^ k % 2 = 1 then px_m (px_pw a (e % 2 ^ k)) (px_pw a (2 ^ k)) else px_pw a (e % 2 ^ k) := by
  have e1 : e % 2 ^ (k + 1) = e % 2 ^ k + 2 ^ k * (e / 2 ^ k % 2) := by rw [Nat.pow_succ, Nat.mod_mul]
  rw [e1]
  split
  · rename_i hc
    rw [hc, Nat.mul_one, px_pw_add]
  · rename_i hc
    rw [show e / 2 ^ k % 2 = 0 by omega, Nat.mul_zero, Nat.add_zero]
theorem pw_turn {p n : Nat} (h : md p n) (a e k : Nat) : (if e / 2 ^ k % 2 = 1 then px_r p (px_m (px_r p (px_pw a (e % 2 ^ k))) (px_r p (px_pw a (2 ^ k)))) else px_r p (px_pw a (e % 2 ^ k))) = px_r p (px_pw a (e % 2 ^ (k + 1))) := by
  rw [pw_low]
  split
  · rw [px_r_ml h, px_r_mr h]
  · rfl
theorem pw_sq {p n : Nat} (h : md p n) (a k : Nat) : px_r p (px_m (px_r p (px_pw a (2 ^ k))) (px_r p (px_pw a (2 ^ k)))) = px_r p (px_pw a (2 ^ (k + 1))) := by
  rw [px_r_ml h, px_r_mr h, Nat.pow_succ, Nat.mul_comm (2 ^ k) 2, px_pw_dbl]
/-- powers from the highest bit down -/
theorem pw_high {p n : Nat} (h : md p n) (a e k : Nat) (ha : a < 2 ^ n) : (if e / 2 ^ k % 2 = 1 then px_r p (px_m (px_r p (px_m (px_r p (px_pw a (e / 2 ^ (k + 1)))) (px_r p (px_pw a (e / 2 ^ (k + 1)))))) a) else px_r p (px_m (px_r p (px_pw a (e / 2 ^ (k + 1)))) (px_r p (px_pw a (e / 2 ^ (k + 1)))))) = px_r p (px_pw a (e / 2 ^ k)) := by
  have e1 : e / 2 ^ (k + 1) = e / 2 ^ k / 2 := by rw [Nat.pow_succ, Nat.div_div_eq_div_mul]
  have e2 : ∀ z, px_r p (px_m (px_r p (px_pw a z)) (px_r p (px_pw a z))) = px_r p (px_pw a (2 * z)) := fun z => by rw [px_r_ml h, px_r_mr h, ← px_pw_dbl]
  rw [e1, e2]
  generalize e / 2 ^ k = c
  split
  · rename_i hc
    rw [px_r_ml h]
    conv => rhs; rw [show c = 2 * (c / 2) + 1 by omega]
    rfl
  · rename_i hc
    conv => rhs; rw [show c = 2 * (c / 2) by omega]
/-- one turn of long division: the bit k of v is taken away -/
theorem dv_turn {b j v k : Nat} (hb : 2 ^ j ≤ b) (hb' : b < 2 ^ (j + 1)) (hjk : j ≤ k) (hv : v < 2 ^ (k + 1)) : (if v / 2 ^ k % 2 = 1 then v ^^^ b * 2 ^ (k - j) else v) < 2 ^ k ∧ px_cg b (if v / 2 ^ k % 2 = 1 then v ^^^ b * 2 ^ (k - j) else v) v := by
  split
  · rename_i hc
    have hvk : 2 ^ k ≤ v := by
      apply Classical.byContradiction
      intro hn
      rw [Nat.div_eq_of_lt (by omega)] at hc
      omega
    have hd := px_deg (a := b) (b := 2 ^ (k - j)) (i := j) (j := k - j) hb hb' (Nat.le_refl _) (Nat.pow_lt_pow_right (by decide) (by omega))
    rw [px_m_pow2, show j + (k - j) = k by omega] at hd
    refine ⟨px_tops hvk hv hd.1 hd.2, ?_⟩
    unfold px_cg
    rw [Nat.xor_comm v, px_cc, ← px_m_pow2]
    exact px_dv_m b _
  · rename_i hc
    refine ⟨?_, px_cg_refl b v⟩
    apply Classical.byContradiction
    intro hn
    have e : v / 2 ^ k = 1 := by
      rw [Nat.div_eq_iff (Nat.two_pow_pos k)]
      rw [Nat.pow_succ] at hv
      omega
    rw [e] at hc
    exact hc rfl
theorem shl_lt {b j k : Nat} (hb' : b < 2 ^ (j + 1)) (hjk : j ≤ k) (hk : k < 64) : b * 2 ^ (k - j) < 2 ^ 64 := by
  have h1 : b * 2 ^ (k - j) < 2 ^ (j + 1) * 2 ^ (k - j) := Nat.mul_lt_mul_of_pos_right hb' (Nat.two_pow_pos _)
  rw [← Nat.pow_add] at h1
  have h2 : 2 ^ (j + 1 + (k - j)) ≤ 2 ^ 64 := Nat.pow_le_pow_right (by decide) (by omega)
  omega
/-! parity, and how many bits are set -/
def pc_n (v : Nat) : Nat → Nat
  | 0 => 0
  | k + 1 => pc_n v k + v / 2 ^ k % 2
theorem pc_small {v k : Nat} (h : v < 2 ^ k) : ∀ j, k ≤ j → pc_n v j = pc_n v k := by
  intro j
  induction j with
  | zero => intro hj; rw [show k = 0 by omega]
  | succ j ih =>
    intro hj
    by_cases e : k = j + 1
    · rw [e]
    · have h2 : v / 2 ^ j = 0 := Nat.div_eq_of_lt (Nat.lt_of_lt_of_le h (Nat.pow_le_pow_right (by decide) (by omega)))
      show pc_n v j + v / 2 ^ j % 2 = _
      rw [h2, ih (by omega)]
      rfl
