/-! circuits: lines as truth values, with a fault or none -/
def gb (k : Nat) (a b : Bool) : Bool := if k = 0 then a && b else if k = 1 then a || b else if k = 2 then a ^^ b else if k = 3 then !(a && b) else if k = 4 then !(a || b) else !a
/-- a line's value, from those before it -/
def ci_v (cc : Nat) (kd lf rg : Nat → Nat) (pt : Nat) (f : Nat → Bool) (k : Nat) : Bool := if k < cc then pt.testBit k else gb (kd (k - cc)) (f (lf (k - cc))) (f (rg (k - cc)))
def ci_s (st : Option Nat) (k : Nat) (b : Bool) : Bool := match st with
  | none => b
  | some s => if s / 2 = k then s % 2 == 1 else b
/-- the lines below k -/
def ci_t (cc : Nat) (kd lf rg : Nat → Nat) (pt : Nat) (st : Option Nat) : Nat → Nat → Bool
  | 0 => fun _ => false
  | k + 1 => fun j => if j = k then ci_s st k (ci_v cc kd lf rg pt (ci_t cc kd lf rg pt st k) k) else ci_t cc kd lf rg pt st k j
/-- the answer -/
def ci_a (ol : Nat → Nat) (f : Nat → Bool) : Nat → Nat
  | 0 => 0
  | i + 1 => ci_a ol f i + (if f (ol i) = true then 2 ^ i else 0)
theorem ci_a_lt (ol : Nat → Nat) (f : Nat → Bool) : ∀ i, ci_a ol f i < 2 ^ i
  | 0 => Nat.zero_lt_one
  | i + 1 => by
    have := ci_a_lt ol f i
    show ci_a ol f i + _ < 2 ^ (i + 1)
    rw [Nat.pow_succ]
    split <;> omega
theorem ci_a_congr {ol ol' : Nat → Nat} {f f' : Nat → Bool} : ∀ i, (∀ j, j < i → f (ol j) = f' (ol' j)) → ci_a ol f i = ci_a ol' f' i
  | 0, _ => rfl
  | i + 1, h => by
    show ci_a ol f i + _ = ci_a ol' f' i + _
    rw [ci_a_congr i (fun j hj => h j (by omega)), h i (by omega)]
theorem ci_a_bit (ol : Nat → Nat) (f : Nat → Bool) : ∀ (i j : Nat), (ci_a ol f i).testBit j = (decide (j < i) && f (ol j)) := by
  intro i
  induction i with
  | zero => intro j; simp [ci_a]
  | succ i ih =>
    intro j
    have hlt := ci_a_lt ol f i
    show (ci_a ol f i + _).testBit j = _
    cases hf : f (ol i)
    · rw [if_neg (by decide), Nat.add_zero, ih]
      by_cases e : j = i
      · subst e; simp [hf]
      · rw [show decide (j < i) = decide (j < i + 1) by rw [decide_eq_decide]; omega]
    · rw [if_pos rfl, Nat.add_comm]
      rcases Nat.lt_trichotomy j i with h | h | h
      · rw [Nat.testBit_two_pow_add_gt h, ih]
        simp [h, show j < i + 1 by omega]
      · subst h
        rw [Nat.testBit_two_pow_add_eq, Nat.testBit_lt_two_pow hlt]
        simp [hf]
      · have h2 : 2 ^ (i + 1) ≤ 2 ^ j := Nat.pow_le_pow_right (by decide) h
        rw [Nat.testBit_lt_two_pow (by rw [Nat.pow_succ] at h2; omega)]
        simp [show ¬ j < i + 1 by omega]
/-- the lines hold what they should: V is what a table holds, S which fault a bit stands for -/
def ci_R (cc : Nat) (kd lf rg : Nat → Nat) (pt : Nat) (S : Nat → Option Nat) (k : Nat) (V : Nat → Nat) : Prop :=
  ∀ j, j < k → V j < 2 ^ 64 ∧ ∀ f, f < 64 → (V j).testBit f = ci_t cc kd lf rg pt (S f) k j
theorem ci_R_0 (cc : Nat) (kd lf rg : Nat → Nat) (pt : Nat) (S : Nat → Option Nat) (V : Nat → Nat) : ci_R cc kd lf rg pt S 0 V := fun j hj => absurd hj (Nat.not_lt_zero j)
theorem ci_R_up {cc : Nat} {kd lf rg : Nat → Nat} {pt : Nat} {S : Nat → Option Nat} {k : Nat} {V V' : Nat → Nat} (h : ci_R cc kd lf rg pt S k V) (hk : ∀ j, j < k → V' j = V j) (h1 : V' k < 2 ^ 64)
    (h2 : ∀ f, f < 64 → (V' k).testBit f = ci_s (S f) k (ci_v cc kd lf rg pt (ci_t cc kd lf rg pt (S f) k) k)) : ci_R cc kd lf rg pt S (k + 1) V' := by
  intro j hj
  by_cases e : j = k
  · subst e
    refine ⟨h1, fun f hf => ?_⟩
    rw [h2 f hf]
    show _ = (if j = j then _ else _)
    rw [if_pos rfl]
  · rw [hk j (by omega)]
    refine ⟨(h j (by omega)).1, fun f hf => ?_⟩
    rw [(h j (by omega)).2 f hf]
    show _ = (if j = k then _ else _)
    rw [if_neg e]
/-- the bits of a gate's value -/
def ci_g (k a b : Nat) : Nat := if k = 0 then a &&& b else if k = 1 then a ||| b else if k = 2 then a ^^^ b else if k = 3 then (a &&& b) ^^^ (2 ^ 64 - 1) else if k = 4 then (a ||| b) ^^^ (2 ^ 64 - 1) else a ^^^ (2 ^ 64 - 1)
theorem ci_g_lt {k a b : Nat} (ha : a < 2 ^ 64) (hb : b < 2 ^ 64) : ci_g k a b < 2 ^ 64 := by
  have h1 := Nat.and_lt_two_pow a hb
  have h2 := Nat.or_lt_two_pow ha hb
  have h3 : 2 ^ 64 - 1 < 2 ^ 64 := by decide
  unfold ci_g
  split
  · exact h1
  split
  · exact h2
  split
  · exact Nat.xor_lt_two_pow ha hb
  split
  · exact Nat.xor_lt_two_pow h1 h3
  split
  · exact Nat.xor_lt_two_pow h2 h3
  · exact Nat.xor_lt_two_pow ha h3
theorem ci_g_bit {k a b f : Nat} (hf : f < 64) : (ci_g k a b).testBit f = gb k (a.testBit f) (b.testBit f) := by
  have hm : (2 ^ 64 - 1).testBit f = true := by rw [Nat.testBit_two_pow_sub_one]; simpa using hf
  unfold ci_g gb
  split
  · rw [Nat.testBit_and]
  split
  · rw [Nat.testBit_or]
  split
  · rw [Nat.testBit_xor]
  split
  · rw [Nat.testBit_xor, Nat.testBit_and, hm]; simp
  split
  · rw [Nat.testBit_xor, Nat.testBit_or, hm]; simp
  · rw [Nat.testBit_xor, hm]; simp
/-- a line's bits, stuck where they should be -/
def ci_k (v k : Nat) : Nat := (v &&& (2 ^ (2 * k) ^^^ (2 ^ 64 - 1))) ||| 2 ^ (2 * k + 1)
theorem ci_k_lt {v k : Nat} (hv : v < 2 ^ 64) (hk : k < 32) : ci_k v k < 2 ^ 64 := by
  unfold ci_k
  exact Nat.or_lt_two_pow (Nat.lt_of_le_of_lt Nat.and_le_left hv) (Nat.pow_lt_pow_right (by decide) (by omega))
theorem ci_k_bit {v k f : Nat} (hf : f < 64) : (ci_k v k).testBit f = ci_s (some f) k (v.testBit f) := by
  have hm : (2 ^ 64 - 1).testBit f = true := by rw [Nat.testBit_two_pow_sub_one]; simpa using hf
  unfold ci_k ci_s
  rw [Nat.testBit_or, Nat.testBit_and, Nat.testBit_xor, hm, Nat.testBit_two_pow, Nat.testBit_two_pow]
  show _ = if f / 2 = k then (f % 2 == 1) else v.testBit f
  by_cases h1 : f = 2 * k
  · subst h1
    rw [if_pos (by omega), show 2 * k % 2 = 0 by omega]
    simp
  · by_cases h2 : f = 2 * k + 1
    · subst h2
      rw [if_pos (by omega), show (2 * k + 1) % 2 = 1 by omega]
      simp
    · rw [if_neg (by omega)]
      simp [show ¬ 2 * k = f by omega, show ¬ 2 * k + 1 = f by omega]
/-- one bit, in all 64 places -/
def ci_p (b : Bool) : Nat := if b = true then 2 ^ 64 - 1 else 0
theorem ci_p_lt (b : Bool) : ci_p b < 2 ^ 64 := by cases b <;> decide
theorem ci_p_bit (b : Bool) {f : Nat} (hf : f < 64) : (ci_p b).testBit f = b := by
  cases b
  · simp [ci_p]
  · show (2 ^ 64 - 1).testBit f = true
    rw [Nat.testBit_two_pow_sub_one]
    simpa using hf
/-- what a turn of the class's loop writes -/
def ci_w (cc : Nat) (kd lf rg : Nat → Nat) (pt : Nat) (V : Nat → Nat) (k : Nat) : Nat := if k < cc then ci_p (pt.testBit k) else ci_g (kd (k - cc)) (V (lf (k - cc))) (V (rg (k - cc)))
theorem ci_w_lt {cc : Nat} {kd lf rg : Nat → Nat} {pt : Nat} {S : Nat → Option Nat} {k : Nat} {V : Nat → Nat} (h : ci_R cc kd lf rg pt S k V) (hg : cc ≤ k → lf (k - cc) < k ∧ rg (k - cc) < k) : ci_w cc kd lf rg pt V k < 2 ^ 64 := by
  unfold ci_w
  split
  · exact ci_p_lt _
  · rename_i hc
    obtain ⟨h1, h2⟩ := hg (by omega)
    exact ci_g_lt (h _ h1).1 (h _ h2).1
theorem ci_w_bit {cc : Nat} {kd lf rg : Nat → Nat} {pt : Nat} {S : Nat → Option Nat} {k : Nat} {V : Nat → Nat} (h : ci_R cc kd lf rg pt S k V) (hg : cc ≤ k → lf (k - cc) < k ∧ rg (k - cc) < k) {f : Nat} (hf : f < 64) :
    (ci_w cc kd lf rg pt V k).testBit f = ci_v cc kd lf rg pt (ci_t cc kd lf rg pt (S f) k) k := by
  unfold ci_w ci_v
  split
  · exact ci_p_bit _ hf
  · rename_i hc
    obtain ⟨h1, h2⟩ := hg (by omega)
    rw [ci_g_bit hf, (h _ h1).2 f hf, (h _ h2).2 f hf]
theorem ci_turnN {cc : Nat} {kd lf rg : Nat → Nat} {pt : Nat} {k : Nat} {V V' : Nat → Nat} (h : ci_R cc kd lf rg pt (fun _ => none) k V) (hg : cc ≤ k → lf (k - cc) < k ∧ rg (k - cc) < k) (hk : ∀ j, j < k → V' j = V j)
    (h1 : V' k = ci_w cc kd lf rg pt V k) : ci_R cc kd lf rg pt (fun _ => none) (k + 1) V' :=
  ci_R_up h hk (by rw [h1]; exact ci_w_lt h hg) (fun f hf => by rw [h1, ci_w_bit h hg hf]; rfl)
theorem ci_turnF {cc : Nat} {kd lf rg : Nat → Nat} {pt : Nat} {k : Nat} {V V' : Nat → Nat} (h : ci_R cc kd lf rg pt some k V) (hg : cc ≤ k → lf (k - cc) < k ∧ rg (k - cc) < k) (hk : ∀ j, j < k → V' j = V j) (hk32 : k < 32)
    (h1 : V' k = ci_k (ci_w cc kd lf rg pt V k) k) : ci_R cc kd lf rg pt some (k + 1) V' :=
  ci_R_up h hk (by rw [h1]; exact ci_k_lt (ci_w_lt h hg) hk32) (fun f hf => by rw [h1, ci_k_bit hf, ci_w_bit h hg hf])
/-! patterns -/
def pt_n (mk : Nat → Nat) (v : Nat) : Nat → Nat
  | 0 => 0
  | c + 1 => pt_n mk v c + pc_n (v &&& mk c) 64 % 2 * 2 ^ c
theorem pt_lt (mk : Nat → Nat) (v : Nat) : ∀ c, pt_n mk v c < 2 ^ c
  | 0 => Nat.zero_lt_one
  | c + 1 => by
    have := pt_lt mk v c
    show pt_n mk v c + pc_n (v &&& mk c) 64 % 2 * 2 ^ c < 2 ^ (c + 1)
    rw [Nat.pow_succ]
    rcases Nat.mod_two_eq_zero_or_one (pc_n (v &&& mk c) 64) with e | e <;> rw [e] <;> omega
theorem pt_congr {mk mk' : Nat → Nat} (v : Nat) : ∀ c, (∀ j, j < c → mk j = mk' j) → pt_n mk v c = pt_n mk' v c
  | 0, _ => rfl
  | c + 1, h => by
    show pt_n mk v c + _ = pt_n mk' v c + _
    rw [pt_congr v c (fun j hj => h j (by omega)), h c (by omega)]
