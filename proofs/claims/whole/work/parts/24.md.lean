theorem md_lt {p n : Nat} (h : md p n) : p < 2 ^ 64 := by
  have h1 : 2 ^ (n + 1) ≤ 2 ^ 64 := Nat.pow_le_pow_right (by decide) (by have := h.2.1; omega)
  have := h.2.2.2.1
  omega
theorem md_n {p n : Nat} (h : md p n) : 2 ^ n ≤ 2 ^ 32 := Nat.pow_le_pow_right (by decide) h.2.1
theorem md_lg {p n : Nat} (h : md p n) : p.log2 = n := px_lg h.2.2.1 h.2.2.2.1
theorem res_lt {p n a : Nat} (h : md p n) (ha : a < 2 ^ n) : a < 2 ^ 32 := Nat.lt_of_lt_of_le ha (md_n h)
theorem r_lt32 {p n : Nat} (h : md p n) (a : Nat) : px_r p a < 2 ^ 32 := res_lt h (px_r_lt h a)
theorem r_lt64 {p n : Nat} (h : md p n) (a : Nat) : px_r p a < 2 ^ 64 := by have := r_lt32 h a; omega
theorem cmq_ne {x y : Int64} (h : ¬ lg_cmp x y = 0) : x ≠ y := fun e => h ((lg_cmp_eq x y).mpr e)
theorem cmq_eq {x y : Int64} (h : lg_cmp x y = 0) : x = y := (lg_cmp_eq x y).mp h
/-- where a sum of bits w lies above the shift -/
theorem qw_or {w s : Nat} (h : w % 2 ^ (s + 1) = 0) : w ||| 2 ^ s = w ^^^ 2 ^ s := by
  apply Nat.eq_of_testBit_eq
  intro i
  rw [Nat.testBit_or, Nat.testBit_xor, Nat.testBit_two_pow]
  by_cases e : s = i
  · subst e
    have h2 : (w % 2 ^ (s + 1)).testBit s = w.testBit s := by rw [Nat.testBit_mod_two_pow]; simp
    rw [h, Nat.zero_testBit] at h2
    rw [← h2]
    simp
  · simp [e]
theorem qw_mod {w s : Nat} (h : w % 2 ^ (s + 1) = 0) : (w ^^^ 2 ^ s) % 2 ^ s = 0 := by
  rw [Nat.xor_mod_two_pow, Nat.mod_self, Nat.xor_zero]
  have : 2 ^ s ∣ w := Nat.dvd_trans ⟨2, Nat.pow_succ 2 s⟩ (Nat.dvd_of_mod_eq_zero h)
  exact Nat.mod_eq_zero_of_dvd this
theorem qw_mod0 {w s : Nat} (h : w % 2 ^ (s + 1) = 0) : w % 2 ^ s = 0 := by
  have : 2 ^ s ∣ w := Nat.dvd_trans ⟨2, Nat.pow_succ 2 s⟩ (Nat.dvd_of_mod_eq_zero h)
  exact Nat.mod_eq_zero_of_dvd this
