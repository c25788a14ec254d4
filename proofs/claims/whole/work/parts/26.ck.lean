/-! circuits as the arrays hold them -/
def ck (cc gc oc : Nat) (kd lf rg ol : Nat → Nat) : Prop := cc ≤ 8 ∧ gc ≤ 24 ∧ oc ≤ 16 ∧ (∀ g, g < gc → kd g ≤ 5 ∧ lf g < cc + g ∧ rg g < cc + g) ∧ ∀ i, i < oc → ol i < cc + gc
theorem lN_not (a : Nat) : lN a ^^^ (-1) = lN (a ^^^ (2 ^ 64 - 1)) := by
  rw [show (-1 : Int64) = lN (2 ^ 64 - 1) from by decide +kernel, lN_xor]
theorem nI_and1 {b : Nat} (h : b < 2 ^ 32) : nI b &&& nI 1 = nI (b % 2) := pk_andN h 1 (by decide)
theorem neg_sp (b : Nat) : -(lN (b % 2)) = lN (ci_p (b.testBit 0)) := by
  rw [Nat.testBit_zero]
  rcases Nat.mod_two_eq_zero_or_one b with e | e <;> rw [e] <;> decide +kernel
theorem sh_bit (pt k : Nat) : (pt / 2 ^ k).testBit 0 = pt.testBit k := by rw [Nat.testBit_div_two_pow, Nat.zero_add]
theorem ck_line {cc gc oc : Nat} {kd lf rg ol : Nat → Nat} (h : ck cc gc oc kd lf rg ol) {k : Nat} (hk : k < cc + gc) : cc ≤ k → lf (k - cc) < k ∧ rg (k - cc) < k := fun hc => by
  have := h.2.2.2.1 (k - cc) (by omega)
  omega
theorem va_up_lt {f : Nat → Nat} {k v j : Nat} (h : j < k) : va_up f k v j = f j := va_up_ne f v (by omega)
/-- an answer's bits, put together -/
theorem an_turn {ol : Nat → Nat} {F : Nat → Bool} {i b : Nat} (hi : i < 16) (hb : b < 2) (hF : (b = 1) = (F (ol i) = true)) : nI (ci_a ol F i) ||| (nI b <<< (nI i &&& 31)) = nI (ci_a ol F (i + 1)) := by
  have hlt := ci_a_lt ol F i
  have hp : 2 ^ i ≤ 2 ^ 15 := Nat.pow_le_pow_right (by decide) (by omega)
  have hs : ((nI i &&& 31).toBitVec.smod 32).toNat = i := (by decide +kernel : ∀ n, n < 32 → ((nI n &&& 31).toBitVec.smod 32).toNat = n) i (by omega)
  have hm : b * 2 ^ i ≤ 1 * 2 ^ i := Nat.mul_le_mul_right _ (by omega)
  rw [pk_shlN (nI i &&& 31) i hs (by omega)]
  have ho : nI (ci_a ol F i) ||| nI (b * 2 ^ i) = nI (ci_a ol F i ||| b * 2 ^ i) := by
    apply Int32.toBitVec_inj.1
    show BitVec.ofNat 32 _ ||| BitVec.ofNat 32 _ = BitVec.ofNat 32 _
    apply BitVec.eq_of_getLsbD_eq
    intro j hj
    simp [hj]
  rw [ho]
  congr 1
  show _ = ci_a ol F i + (if F (ol i) = true then 2 ^ i else 0)
  have hor : ci_a ol F i ||| b * 2 ^ i = ci_a ol F i + b * 2 ^ i := by
    rw [Nat.or_comm, ← Nat.shiftLeft_eq, ← Nat.shiftLeft_add_eq_or_of_lt hlt, Nat.shiftLeft_eq, Nat.add_comm]
  rw [hor]
  have hb2 : b = 0 ∨ b = 1 := by omega
  rcases hb2 with e | e
  · subst e
    have : ¬ F (ol i) = true := fun z => by rw [← hF] at z; omega
    rw [if_neg this]
    omega
  · subst e
    have : F (ol i) = true := by rw [← hF]
    rw [if_pos this]
    omega
