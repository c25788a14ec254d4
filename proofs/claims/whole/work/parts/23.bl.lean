/-! how long a number is in bits -/
def blen (v : Nat) : Nat := if v = 0 then 0 else v.log2 + 1
theorem blen_pos {v : Nat} (h : v ≠ 0) : blen v = v.log2 + 1 := if_neg h
theorem blen_0 : blen 0 = 0 := rfl
theorem blen_le {v k : Nat} (h : v < 2 ^ k) : blen v ≤ k := by
  by_cases h0 : v = 0
  · rw [h0, blen_0]; omega
  · rw [blen_pos h0]
    have := (Nat.log2_lt h0).2 h
    omega
theorem blen_lt (v : Nat) : v < 2 ^ blen v := by
  by_cases h0 : v = 0
  · rw [h0, blen_0]; decide
  · rw [blen_pos h0]
    exact px_lg2 v
theorem blen_div {v k : Nat} (h : 2 ^ k ≤ v) : blen v = blen (v / 2 ^ k) + k := by
  have hk := Nat.two_pow_pos k
  have h0 : v ≠ 0 := by omega
  have h1 : v / 2 ^ k ≠ 0 := by
    have := Nat.div_pos h hk
    omega
  have hl : k ≤ v.log2 := (Nat.le_log2 h0).2 h
  have h2 : (v / 2 ^ k).log2 = v.log2 - k := by
    apply px_lg
    · rw [Nat.le_div_iff_mul_le hk, ← Nat.pow_add, show v.log2 - k + k = v.log2 by omega]
      exact px_lg1 h0
    · rw [Nat.div_lt_iff_lt_mul hk, ← Nat.pow_add, show v.log2 - k + 1 + k = v.log2 + 1 by omega]
      exact px_lg2 v
  rw [blen_pos h0, blen_pos h1, h2]
  omega
theorem nI_dec {a b : Nat} (h : b ≤ a) : nI a + -nI b = nI (a - b) := by rw [← Int32.sub_eq_add_neg, pk_sub h]
theorem nI_gt0 {u : Nat} (h : u < 2 ^ 32) : 0 < nI u ↔ 0 < u ∧ u < 2 ^ 31 := by
  rw [Int32.lt_iff_toInt_lt, Int32.toInt_zero]
  have e : (nI u).toInt = if u < 2 ^ 31 then (u : Int) else (u : Int) - 2 ^ 32 := by
    have c := BitVec.toInt_eq_toNat_cond (nI u).toBitVec
    rw [pk_tn h] at c
    show (nI u).toBitVec.toInt = _
    rw [c]
    split <;> split <;> omega
  rw [e]
  split <;> omega
theorem nI_eq0 {u : Nat} (h : u < 2 ^ 32) : nI u = 0 ↔ u = 0 := by
  constructor
  · intro e
    have := congrArg (fun z : Int32 => z.toBitVec.toNat) e
    simp only [pk_tn h] at this
    exact this
  · intro e; rw [e]; rfl
theorem l2i_lN (a : Nat) : (lN a).toInt32 = nI a := lN_i a
theorem nI_mod (a : Nat) : nI (a % 2 ^ 32) = nI a := by
  apply Int32.toBitVec_inj.1
  show BitVec.ofNat 32 (a % 2 ^ 32) = BitVec.ofNat 32 a
  apply BitVec.eq_of_toNat_eq
  rw [BitVec.toNat_ofNat, BitVec.toNat_ofNat, Nat.mod_mod]
theorem sub_jm {k : Nat} (h : k ≤ 64) : nI 63 - nI (64 - k) = jm k := by
  apply Int32.toInt_inj.mp
  rw [pk_sub_toInt (by decide) (by omega), jm_toInt (by omega)]
  omega
