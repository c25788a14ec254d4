/-! how many bits are set, as the JDK reckons it: eight lanes of eight bits -/
theorem bc_and {b u c v : Nat} (hb : b < 256) (hc : c < 256) : (b + 256 * u) &&& (c + 256 * v) = (b &&& c) + 256 * (u &&& v) := by
  have h1 := Nat.and_div_two_pow (a := b + 256 * u) (b := c + 256 * v) (n := 8)
  have h2 := Nat.and_mod_two_pow (a := b + 256 * u) (b := c + 256 * v) (n := 8)
  rw [show (2 : Nat) ^ 8 = 256 by decide] at h1 h2
  rw [show (b + 256 * u) / 256 = u by omega, show (c + 256 * v) / 256 = v by omega] at h1
  rw [show (b + 256 * u) % 256 = b by omega, show (c + 256 * v) % 256 = c by omega] at h2
  generalize (b + 256 * u) &&& (c + 256 * v) = x at *
  omega
def bc_k (k : Nat) : Nat → Nat
  | 0 => 0
  | m + 1 => k + 256 * bc_k k m
def bc_1 (m x : Nat) : Nat := x - (x / 2 &&& bc_k 85 m)
def bc_2 (m x : Nat) : Nat := (x &&& bc_k 51 m) + (x / 4 &&& bc_k 51 m)
def bc_3 (m x : Nat) : Nat := (x + x / 16) &&& bc_k 15 m
theorem bc_f1 : ∀ b, b < 256 → ∀ c, c < 2 → (b / 2 + 128 * c) &&& 85 = b / 2 &&& 85 ∧ b / 2 &&& 85 ≤ b := by decide +kernel
theorem bc_f2 : ∀ b, b < 256 → ∀ c, c < 4 → (b / 4 + 64 * c) &&& 51 = b / 4 &&& 51 := by decide +kernel
theorem bc_f3 : ∀ b, b < 256 → b % 16 ≤ 4 → b / 16 ≤ 4 → ∀ c, c < 5 → (b + b / 16 + 16 * c) &&& 15 = (b + b / 16) &&& 15 := by decide +kernel
theorem bc_s1 {m b u : Nat} (hb : b < 256) : bc_1 (m + 1) (b + 256 * u) = (b - (b / 2 &&& 85)) + 256 * bc_1 m u := by
  unfold bc_1
  obtain ⟨h1, h2⟩ := bc_f1 b hb (u % 2) (by omega)
  rw [show (b + 256 * u) / 2 = (b / 2 + 128 * (u % 2)) + 256 * (u / 2) by omega]
  show _ - ((b / 2 + 128 * (u % 2) + 256 * (u / 2)) &&& (85 + 256 * bc_k 85 m)) = _
  rw [bc_and (by omega) (by decide), h1]
  have h3 : u / 2 &&& bc_k 85 m ≤ u / 2 := Nat.and_le_left
  omega
theorem bc_s2 {m b u : Nat} (hb : b < 256) : bc_2 (m + 1) (b + 256 * u) = ((b &&& 51) + (b / 4 &&& 51)) + 256 * bc_2 m u := by
  unfold bc_2
  have h1 := bc_f2 b hb (u % 4) (by omega)
  rw [show (b + 256 * u) / 4 = (b / 4 + 64 * (u % 4)) + 256 * (u / 4) by omega]
  show ((b + 256 * u) &&& (51 + 256 * bc_k 51 m)) + ((b / 4 + 64 * (u % 4) + 256 * (u / 4)) &&& (51 + 256 * bc_k 51 m)) = _
  rw [bc_and hb (by decide), bc_and (by omega) (by decide), h1]
  omega
theorem bc_s3 {m b u : Nat} (hb : b < 256) (h1 : b % 16 ≤ 4) (h2 : b / 16 ≤ 4) (h3 : u % 16 ≤ 4) : bc_3 (m + 1) (b + 256 * u) = ((b + b / 16) &&& 15) + 256 * bc_3 m u := by
  unfold bc_3
  have h4 := bc_f3 b hb h1 h2 (u % 16) (by omega)
  rw [show b + 256 * u + (b + 256 * u) / 16 = (b + b / 16 + 16 * (u % 16)) + 256 * (u + u / 16) by omega]
  show ((b + b / 16 + 16 * (u % 16) + 256 * (u + u / 16)) &&& (15 + 256 * bc_k 15 m)) = _
  rw [bc_and (by omega) (by decide), h4]
theorem bc_b1 : ∀ b, b < 256 → b - (b / 2 &&& 85) < 256 := by decide +kernel
def bc_y (b : Nat) : Nat := ((b - (b / 2 &&& 85)) &&& 51) + ((b - (b / 2 &&& 85)) / 4 &&& 51)
theorem bc_b2 : ∀ b, b < 256 → bc_y b < 256 ∧ bc_y b % 16 ≤ 4 ∧ bc_y b / 16 ≤ 4 := by decide +kernel
theorem bc_b3 : ∀ b, b < 256 → (bc_y b + bc_y b / 16) &&& 15 = pc_n b 8 := by decide +kernel
theorem bc_all : ∀ (m x : Nat), x < 256 ^ m → bc_2 m (bc_1 m x) % 16 ≤ 4 ∧ (∀ b u, x = b + 256 * u → b < 256 → ∀ k, m = k + 1 → bc_3 m (bc_2 m (bc_1 m x)) = pc_n b 8 + 256 * bc_3 k (bc_2 k (bc_1 k u))) := by
  intro m
  induction m with
  | zero =>
    intro x hx
    have : x = 0 := by simpa using hx
    subst this
    exact ⟨by decide, fun b u _ _ k hk => by omega⟩
  | succ m ih =>
    intro x hx
    have hb : x % 256 < 256 := Nat.mod_lt _ (by decide)
    have hu : x / 256 < 256 ^ m := by
      rw [Nat.div_lt_iff_lt_mul (by decide), ← Nat.pow_succ]
      exact hx
    have hi := (ih (x / 256) hu).1
    obtain ⟨q1, q2, q3⟩ := bc_b2 _ hb
    have e : bc_2 (m + 1) (bc_1 (m + 1) x) = bc_y (x % 256) + 256 * bc_2 m (bc_1 m (x / 256)) := by
      conv => lhs; rw [show x = x % 256 + 256 * (x / 256) by omega]
      rw [bc_s1 hb, bc_s2 (bc_b1 _ hb)]
      rfl
    refine ⟨by rw [e]; omega, fun b u hx2 hb2 k hk => ?_⟩
    have hk2 : k = m := by omega
    subst hk2
    have e1 : x % 256 = b := by omega
    have e2 : x / 256 = u := by omega
    rw [e, bc_s3 q1 q2 q3 hi, bc_b3 _ hb, e1, e2]
theorem bc_pc (b u : Nat) (hb : b < 256) : ∀ k, pc_n (b + 256 * u) (8 + k) = pc_n b 8 + pc_n u k := by
  intro k
  induction k with
  | zero =>
    have h : ∀ j, j ≤ 8 → pc_n (b + 256 * u) j = pc_n b j := by
      intro j
      induction j with
      | zero => intro _; rfl
      | succ j ih =>
        intro hj
        show pc_n (b + 256 * u) j + (b + 256 * u) / 2 ^ j % 2 = pc_n b j + b / 2 ^ j % 2
        rw [ih (by omega)]
        have e : 256 * u = 2 ^ j * (2 ^ (8 - j) * u) := by
          rw [← Nat.mul_assoc, ← Nat.pow_add, show j + (8 - j) = 8 by omega]
        have e3 : 2 ^ (8 - j) * u = 2 * (2 ^ (7 - j) * u) := by
          rw [← Nat.mul_assoc, Nat.mul_comm 2, ← Nat.pow_succ, show Nat.succ (7 - j) = 8 - j by omega]
        rw [e, Nat.add_mul_div_left _ _ (Nat.two_pow_pos j), e3, Nat.add_mul_mod_self_left]
    rw [Nat.add_zero, h 8 (by decide)]
    rfl
  | succ k ih =>
    show pc_n (b + 256 * u) (8 + k) + (b + 256 * u) / 2 ^ (8 + k) % 2 = pc_n b 8 + (pc_n u k + u / 2 ^ k % 2)
    rw [ih, Nat.pow_add, ← Nat.div_div_eq_div_mul, show (b + 256 * u) / 2 ^ 8 = u by rw [show (2 : Nat) ^ 8 = 256 by decide]; omega]
    omega
theorem pc_le (v : Nat) : ∀ k, pc_n v k ≤ k := by
  intro k
  induction k with
  | zero => exact Nat.le_refl _
  | succ k ih => show pc_n v k + v / 2 ^ k % 2 ≤ _; omega
theorem bc_d2 {a b Z : Nat} (ha : a < 256) (hb : b < 256) : (a + 256 * (b + 256 * Z)) / 65536 = Z := by omega
theorem bc_d4 {a b c d E : Nat} (ha : a < 256) (hb : b < 256) (hc : c < 256) (hd : d < 256) : (a + 256 * (b + 256 * (c + 256 * (d + 256 * E)))) / 4294967296 = E := by omega
theorem bc_end {c0 c1 c2 c3 c4 c5 c6 c7 Y1 Y2 Y3 Y4 Y5 Y6 Y7 : Nat} (b0 : c0 ≤ 8) (b1 : c1 ≤ 8) (b2 : c2 ≤ 8) (b3 : c3 ≤ 8) (b4 : c4 ≤ 8) (b5 : c5 ≤ 8) (b6 : c6 ≤ 8) (b7 : c7 ≤ 8)
    (h1 : Y1 = c1 + 256 * Y2) (h2 : Y2 = c2 + 256 * Y3) (h3 : Y3 = c3 + 256 * Y4) (h4 : Y4 = c4 + 256 * Y5) (h5 : Y5 = c5 + 256 * Y6) (h6 : Y6 = c6 + 256 * Y7) (h7 : Y7 = c7 + 256 * 0) :
    c0 + 256 * Y1 < 2 ^ 60 ∧ (c0 + 256 * Y1 + (c0 + 256 * Y1) / 256 + (c0 + 256 * Y1 + (c0 + 256 * Y1) / 256) / 65536 + (c0 + 256 * Y1 + (c0 + 256 * Y1) / 256 + (c0 + 256 * Y1 + (c0 + 256 * Y1) / 256) / 65536) / 4294967296) % 128 = c0 + (c1 + (c2 + (c3 + (c4 + (c5 + (c6 + c7)))))) := by
  refine ⟨by omega, ?_⟩
  have s1 : (c0 + 256 * Y1) / 256 = Y1 := by clear h1 h2 h3 h4 h5 h6 h7; omega
  rw [s1]
  have s2 : c0 + 256 * Y1 + Y1 = (c0 + c1) + 256 * ((c1 + c2) + 256 * (Y2 + Y3)) := by clear h3 h4 h5 h6 h7; omega
  rw [s2, bc_d2 (by omega) (by omega)]
  have s3 : (c0 + c1) + 256 * ((c1 + c2) + 256 * (Y2 + Y3)) + (Y2 + Y3) = (c0 + c1 + c2 + c3) + 256 * ((c1 + c2 + c3 + c4) + 256 * ((c2 + c3 + c4 + c5) + 256 * ((c3 + c4 + c5 + c6) + 256 * (Y4 + Y5 + Y6 + Y7)))) := by clear h1 h7; omega
  rw [s3, bc_d4 (by omega) (by omega) (by omega) (by omega)]
  have s4 : Y4 + Y5 + Y6 + Y7 = (c4 + c5 + c6 + c7) + 256 * (Y5 + Y6 + Y7) := by clear h1 h2 h3; omega
  generalize hK : (c1 + c2 + c3 + c4) + 256 * ((c2 + c3 + c4 + c5) + 256 * ((c3 + c4 + c5 + c6) + 256 * (Y4 + Y5 + Y6 + Y7))) = K
  have s5 : c0 + c1 + c2 + c3 + 256 * K + (Y4 + Y5 + Y6 + Y7) = (c0 + (c1 + (c2 + (c3 + (c4 + (c5 + (c6 + c7))))))) + 128 * (2 * (K + (Y5 + Y6 + Y7))) := by rw [s4]; clear h1 h2 h3 h4 h5 h6 h7 s1 s2 s3 hK; omega
  rw [s5, Nat.add_mul_mod_self_left, Nat.mod_eq_of_lt (by omega)]
/-- the JDK's way, as numbers -/
theorem bc_main {x : Nat} (hx : x < 2 ^ 64) : ∃ y, bc_3 8 (bc_2 8 (bc_1 8 x)) = y ∧ y < 2 ^ 60 ∧ (y + y / 256 + (y + y / 256) / 65536 + (y + y / 256 + (y + y / 256) / 65536) / 4294967296) % 128 = pc_n x 64 := by
  obtain ⟨a0, h0, e0⟩ : ∃ a, a < 256 ∧ x = a + 256 * (x / 256) := ⟨x % 256, by omega, by omega⟩
  obtain ⟨a1, h1, e1⟩ : ∃ a, a < 256 ∧ x / 256 = a + 256 * (x / 256 / 256) := ⟨x / 256 % 256, by omega, by omega⟩
  obtain ⟨a2, h2, e2⟩ : ∃ a, a < 256 ∧ x / 256 / 256 = a + 256 * (x / 256 / 256 / 256) := ⟨x / 256 / 256 % 256, by omega, by omega⟩
  obtain ⟨a3, h3, e3⟩ : ∃ a, a < 256 ∧ x / 256 / 256 / 256 = a + 256 * (x / 256 / 256 / 256 / 256) := ⟨x / 256 / 256 / 256 % 256, by omega, by omega⟩
  generalize hx1 : x / 256 = x1 at *
  generalize hx2 : x1 / 256 = x2 at *
  generalize hx3 : x2 / 256 = x3 at *
  generalize hx4 : x3 / 256 = x4 at *
  obtain ⟨a4, h4, x5, e4⟩ : ∃ a, a < 256 ∧ ∃ z, x4 = a + 256 * z := ⟨x4 % 256, by omega, x4 / 256, by omega⟩
  obtain ⟨a5, h5, x6, e5⟩ : ∃ a, a < 256 ∧ ∃ z, x5 = a + 256 * z := ⟨x5 % 256, by omega, x5 / 256, by omega⟩
  obtain ⟨a6, h6, x7, e6⟩ : ∃ a, a < 256 ∧ ∃ z, x6 = a + 256 * z := ⟨x6 % 256, by omega, x6 / 256, by omega⟩
  have h7 : x7 < 256 := by omega
  clear hx1 hx2 hx3 hx4
  have t0 := (bc_all 8 x (by omega)).2 a0 x1 e0 h0 7 rfl
  have t1 := (bc_all 7 x1 (by omega)).2 a1 x2 e1 h1 6 rfl
  have t2 := (bc_all 6 x2 (by omega)).2 a2 x3 e2 h2 5 rfl
  have t3 := (bc_all 5 x3 (by omega)).2 a3 x4 e3 h3 4 rfl
  have t4 := (bc_all 4 x4 (by omega)).2 a4 x5 e4 h4 3 rfl
  have t5 := (bc_all 3 x5 (by omega)).2 a5 x6 e5 h5 2 rfl
  have t6 := (bc_all 2 x6 (by omega)).2 a6 x7 e6 h6 1 rfl
  have t7 := (bc_all 1 x7 (by omega)).2 x7 0 (by omega) h7 0 rfl
  have u0 := bc_pc a0 x1 h0 56
  have u1 := bc_pc a1 x2 h1 48
  have u2 := bc_pc a2 x3 h2 40
  have u3 := bc_pc a3 x4 h3 32
  have u4 := bc_pc a4 x5 h4 24
  have u5 := bc_pc a5 x6 h5 16
  have u6 := bc_pc a6 x7 h6 8
  rw [← e0] at u0
  have u0 : pc_n x 64 = _ := u0
  rw [← e1] at u1
  have u1 : pc_n x1 56 = _ := u1
  rw [← e2] at u2
  have u2 : pc_n x2 48 = _ := u2
  rw [← e3] at u3
  have u3 : pc_n x3 40 = _ := u3
  rw [← e4] at u4
  have u4 : pc_n x4 32 = _ := u4
  rw [← e5] at u5
  have u5 : pc_n x5 24 = _ := u5
  rw [← e6] at u6
  have u6 : pc_n x6 16 = _ := u6
  have z0 : bc_3 0 (bc_2 0 (bc_1 0 0)) = 0 := by decide
  rw [z0] at t7
  have b0 := pc_le a0 8
  have b1 := pc_le a1 8
  have b2 := pc_le a2 8
  have b3 := pc_le a3 8
  have b4 := pc_le a4 8
  have b5 := pc_le a5 8
  have b6 := pc_le a6 8
  have b7 := pc_le x7 8
  have hend := bc_end b0 b1 b2 b3 b4 b5 b6 b7 t1 t2 t3 t4 t5 t6 t7
  refine ⟨_, rfl, ?_, ?_⟩
  · rw [t0]
    exact hend.1
  · rw [t0, hend.2]
    clear hend t0 t1 t2 t3 t4 t5 t6 t7
    omega
theorem bc_8 {x : Nat} (hx : x < 2 ^ 64) : x / 2 &&& bc_k 85 8 ≤ x ∧ bc_1 8 x < 2 ^ 64 ∧ bc_2 8 (bc_1 8 x) < 2 ^ 64 := by
  have k1 : bc_k 51 8 < 2 ^ 62 := by decide +kernel
  have h1 : x / 2 &&& bc_k 85 8 ≤ x / 2 := Nat.and_le_left
  have h2 : bc_1 8 x &&& bc_k 51 8 ≤ bc_k 51 8 := Nat.and_le_right
  have h3 : bc_1 8 x / 4 &&& bc_k 51 8 ≤ bc_k 51 8 := Nat.and_le_right
  refine ⟨by omega, ?_, ?_⟩
  · unfold bc_1; omega
  · show (bc_1 8 x &&& bc_k 51 8) + (bc_1 8 x / 4 &&& bc_k 51 8) < _
    omega
theorem nI_and127 (b : Nat) : nI b &&& nI 127 = nI (b % 128) := by
  rw [← nI_mod b, pk_andN (Nat.mod_lt _ (by decide)) 7 (by decide)]
  congr 1
  omega
/-! the lowest bit that is set -/
def lb (v k : Nat) : Prop := v.testBit k = true ∧ ∀ j, j < k → v.testBit j = false
theorem lb_form {v k : Nat} (h : lb v k) : ∃ m, v = 2 ^ (k + 1) * m + 2 ^ k := by
  refine ⟨v / 2 ^ (k + 1), ?_⟩
  have e : v % 2 ^ (k + 1) = 2 ^ k := by
    apply Nat.eq_of_testBit_eq
    intro j
    rw [Nat.testBit_mod_two_pow, Nat.testBit_two_pow]
    rcases Nat.lt_trichotomy j k with hj | hj | hj
    · rw [h.2 j hj]
      simp [show ¬ k = j by omega]
    · subst hj
      rw [h.1]
      simp
    · simp [show ¬ k = j by omega, show ¬ j < k + 1 by omega]
  have := Nat.div_add_mod v (2 ^ (k + 1))
  omega
theorem lb_mask {v k : Nat} (hv : v < 2 ^ 32) (hk : k < 32) (h : lb v k) : (v ^^^ (2 ^ 32 - 1)) &&& (v - 1) = 2 ^ k - 1 := by
  obtain ⟨m, e⟩ := lb_form h
  have hp := Nat.two_pow_pos k
  have e2 : v - 1 = 2 ^ (k + 1) * m + (2 ^ k - 1) := by omega
  have hlt : 2 ^ k - 1 < 2 ^ (k + 1) := by rw [Nat.pow_succ]; omega
  have hlt2 : 2 ^ k < 2 ^ (k + 1) := by rw [Nat.pow_succ]; omega
  apply Nat.eq_of_testBit_eq
  intro j
  rw [Nat.testBit_and, Nat.testBit_xor, Nat.testBit_two_pow_sub_one, Nat.testBit_two_pow_sub_one, e2, Nat.testBit_two_pow_mul_add _ hlt]
  by_cases h1 : j < k + 1
  · rw [if_pos h1, Nat.testBit_two_pow_sub_one]
    by_cases h2 : j < k
    · rw [h.2 j h2]
      simp [h2, show j < 32 by omega]
    · simp [h2]
  · rw [if_neg h1]
    have e3 : v.testBit j = m.testBit (j - (k + 1)) := by
      rw [e, Nat.testBit_two_pow_mul_add _ hlt2, if_neg h1]
    rw [e3]
    by_cases h2 : j < 32
    · cases m.testBit (j - (k + 1)) <;> simp [h2, show ¬ j < k by omega]
    · have : v.testBit j = false := Nat.testBit_lt_two_pow (Nat.lt_of_lt_of_le hv (Nat.pow_le_pow_right (by decide) (by omega)))
      rw [e3] at this
      rw [this]
      simp [show ¬ j < k by omega]
theorem lb_pos {v k : Nat} (h : lb v k) : 1 ≤ v := by
  rcases Nat.eq_zero_or_pos v with e | e
  · rw [e] at h
    have := h.1
    simp at this
  · exact e
theorem lb_lt {v k n : Nat} (hv : v < 2 ^ n) (h : lb v k) : k < n := by
  apply Classical.byContradiction
  intro hn
  have := h.1
  rw [Nat.testBit_lt_two_pow (Nat.lt_of_lt_of_le hv (Nat.pow_le_pow_right (by decide) (by omega)))] at this
  cases this
theorem nI_not {a : Nat} : nI a ^^^ (-1) = nI (a ^^^ (2 ^ 32 - 1)) := by
  rw [show (-1 : Int32) = nI (2 ^ 32 - 1) from by decide +kernel]
  apply Int32.toBitVec_inj.1
  show BitVec.ofNat 32 _ ^^^ BitVec.ofNat 32 _ = BitVec.ofNat 32 _
  apply BitVec.eq_of_getLsbD_eq
  intro j hj
  simp [hj]
theorem nI_and2 (a b : Nat) : nI a &&& nI b = nI (a &&& b) := by
  apply Int32.toBitVec_inj.1
  show BitVec.ofNat 32 _ &&& BitVec.ofNat 32 _ = BitVec.ofNat 32 _
  apply BitVec.eq_of_getLsbD_eq
  intro j hj
  simp [hj]
theorem nz_le {j t : Nat} (ht : 1 ≤ t) : 2 ^ j - 1 ≤ 2 ^ t ↔ j ≤ t := by
  constructor
  · intro h
    apply Classical.byContradiction
    intro hn
    have h2 : 2 ^ (t + 1) ≤ 2 ^ j := Nat.pow_le_pow_right (by decide) (by omega)
    have h3 : 2 ^ 1 ≤ 2 ^ t := Nat.pow_le_pow_right (by decide) ht
    rw [Nat.pow_succ] at h2
    omega
  · intro h
    have : 2 ^ j ≤ 2 ^ t := Nat.pow_le_pow_right (by decide) h
    exact Nat.le_trans (Nat.sub_le _ _) this
theorem nz_div {j t : Nat} (h : t ≤ j) : (2 ^ j - 1) / 2 ^ t = 2 ^ (j - t) - 1 := by
  have e : 2 ^ j = 2 ^ t * 2 ^ (j - t) := by rw [← Nat.pow_add]; congr 1; omega
  have h1 := Nat.two_pow_pos t
  have h2 := Nat.two_pow_pos (j - t)
  rw [show 2 ^ j - 1 = (2 ^ t - 1) + 2 ^ t * (2 ^ (j - t) - 1) by rw [Nat.mul_sub_one, ← e]; have : 2 ^ t ≤ 2 ^ j := Nat.pow_le_pow_right (by decide) h; omega, Nat.add_mul_div_left _ _ h1, Nat.div_eq_of_lt (by omega), Nat.zero_add]
theorem lb_lo {v k : Nat} (h : lb v k) (hk : k < 32) : lb (v % 2 ^ 32) k := by
  refine ⟨?_, fun j hj => ?_⟩
  · rw [Nat.testBit_mod_two_pow, h.1]; simp [hk]
  · rw [Nat.testBit_mod_two_pow, h.2 j hj]; simp
theorem lb_hi {v k : Nat} (h : lb v k) (hk : 32 ≤ k) : lb (v / 2 ^ 32) (k - 32) ∧ v % 2 ^ 32 = 0 := by
  refine ⟨⟨?_, fun j hj => ?_⟩, ?_⟩
  · rw [Nat.testBit_div_two_pow, show k - 32 + 32 = k by omega]; exact h.1
  · rw [Nat.testBit_div_two_pow]; exact h.2 _ (by omega)
  · apply Nat.eq_of_testBit_eq
    intro j
    rw [Nat.testBit_mod_two_pow, Nat.zero_testBit]
    by_cases hj : j < 32
    · rw [h.2 j (by omega)]; simp
    · simp [hj]
theorem lb_ne {v k : Nat} (h : lb v k) : v ≠ 0 := by have := lb_pos h; omega
theorem lb_ex {v n : Nat} (hv : v ≠ 0) (hn : v < 2 ^ n) : ∃ k, k < n ∧ lb v k := by
  have : ∀ m, (∃ k, k < m ∧ lb v k) ∨ ∀ j, j < m → v.testBit j = false := by
    intro m
    induction m with
    | zero => exact Or.inr (fun j hj => absurd hj (Nat.not_lt_zero j))
    | succ m ih =>
      rcases ih with ⟨k, hk, h⟩ | h
      · exact Or.inl ⟨k, by omega, h⟩
      · cases hb : v.testBit m
        · refine Or.inr (fun j hj => ?_)
          by_cases e : j = m
          · rw [e]; exact hb
          · exact h j (by omega)
        · exact Or.inl ⟨m, by omega, hb, h⟩
  rcases this n with h | h
  · exact h
  · exfalso
    apply hv
    apply Nat.eq_of_testBit_eq
    intro i
    rw [Nat.zero_testBit]
    by_cases hi : i < n
    · exact h i hi
    · exact Nat.testBit_lt_two_pow (Nat.lt_of_lt_of_le hn (Nat.pow_le_pow_right (by decide) (by omega)))
