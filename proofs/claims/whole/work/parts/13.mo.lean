/-! irreducible or not, by common divisors with x^(2^d) + x, and by trial -/
theorem px_par (a b : Nat) : px_m a b % 2 = 1 ↔ a % 2 = 1 ∧ b % 2 = 1 := by
  rcases Nat.mod_two_eq_zero_or_one b with e | e
  · rw [show b = 2 * (b / 2) by omega, px_m_dbl]
    omega
  · rw [show b = 2 * (b / 2) + 1 by omega, px_m_odd, Nat.xor_mod_two_eq_one]
    omega
theorem px_dv_odd {f p : Nat} (h : px_dv f p) (hp : p % 2 = 1) : f % 2 = 1 := by
  obtain ⟨q, rfl⟩ := h
  exact ((px_par f q).mp hp).1
theorem px_ir_split {p : Nat} (hp : 2 ≤ p) (h : ¬ px_ir p) : ∃ a, px_dv a p ∧ 2 ≤ a ∧ 2 * a.log2 ≤ p.log2 := by
  have : ∃ b c, p = px_m b c ∧ b ≠ 1 ∧ c ≠ 1 := by
    apply Classical.byContradiction
    intro hn
    apply h
    refine ⟨hp, fun b c e => ?_⟩
    by_cases h1 : b = 1
    · exact Or.inl h1
    · by_cases h2 : c = 1
      · exact Or.inr h2
      · exact absurd ⟨b, c, e, h1, h2⟩ hn
  obtain ⟨b, c, e, h1, h2⟩ := this
  obtain ⟨-, -, q3, q4⟩ := px_fac_lt (a := b) (b := c) (by omega) h1 h2
  have hl := px_log (a := b) (b := c) (by omega) (by omega)
  rw [← e] at hl
  by_cases hbc : b.log2 ≤ c.log2
  · exact ⟨b, ⟨c, e⟩, q3, by omega⟩
  · exact ⟨c, ⟨b, by rw [e, px_m_comm]⟩, q4, by omega⟩
theorem ir_yes {p n d w g : Nat} (hp : px_ir p) (hn : 2 ^ n ≤ p) (h1 : 1 ≤ d) (h2 : d < n) (hw : px_cg p w (2 ^ 2 ^ d ^^^ 2)) (hg : px_G g p w) : g = 1 := by
  rcases px_ir_dv hp hg.1 with e | e
  · exact e
  · exfalso
    have hd : px_dv p w := by rw [← e]; exact e ▸ hg.2.1
    have := px_big hp hn h1 (px_cg_dv (px_cg_symm hw) hd)
    omega
theorem ir_no {p n : Nat} (hp : 2 ≤ p) (ho : p % 2 = 1) (hn : 2 ^ n ≤ p) (hn' : p < 2 ^ (n + 1)) (h : ¬ px_ir p) : ∃ d, 1 ≤ d ∧ 2 * d ≤ n ∧ ∀ w g, px_cg p w (2 ^ 2 ^ d ^^^ 2) → px_G g p w → g ≠ 1 := by
  obtain ⟨a, ha, h2, hl⟩ := px_ir_split hp h
  rw [px_lg hn hn'] at hl
  obtain ⟨f, hf, hfa⟩ := px_ir_ex a h2
  have hfp := px_dv_trans hfa ha
  have hle := (px_dv_le hfa (by omega)).2
  refine ⟨f.log2, px_log_pos hf.1, by omega, fun w g hw hg e => ?_⟩
  have h3 := px_fermat2 hf (px_dv_odd hfp ho) (px_lg1 (px_ir_ne hf)) (px_lg2 f)
  have h4 : px_dv f w := px_cg_dv (px_cg_down hfp hw) h3
  have h5 := px_G_dv hg hfp h4
  rw [e] at h5
  have := px_dv_unit h5
  have := hf.1
  omega
theorem ir_trial {p n : Nat} (hp : 2 ≤ p) (ho : p % 2 = 1) (hn : 2 ^ n ≤ p) (hn' : p < 2 ^ (n + 1)) : ¬ px_ir p ↔ ∃ k b, 1 ≤ k ∧ 2 * k ≤ n ∧ 2 ^ k ≤ b ∧ b < 2 ^ (k + 1) ∧ b % 2 = 1 ∧ px_dv b p := by
  constructor
  · intro h
    obtain ⟨a, ha, h2, hl⟩ := px_ir_split hp h
    rw [px_lg hn hn'] at hl
    exact ⟨a.log2, a, px_log_pos h2, hl, px_lg1 (by omega), px_lg2 a, px_dv_odd ha ho, ha⟩
  · rintro ⟨k, b, h1, h2, h3, h4, -, q, e⟩ hi
    have hb := px_lg h3 h4
    have h5 : 2 ^ 1 ≤ 2 ^ k := Nat.pow_le_pow_right (by decide) h1
    rcases hi.2 b q e with z | z
    · omega
    · rw [z, px_m_one] at e
      rw [← e, px_lg hn hn'] at hb
      omega
/-! a multiple of the order -/
/-- what is left of a when all that it shares with g is divided out -/
def wo_S (a g b : Nat) : Prop := b ≠ 0 ∧ (∃ t, a = px_m (px_m b g) t) ∧ (∀ f, px_ir f → px_dv f a → px_dv f b ∨ px_dv f g) ∧ ∀ f, px_ir f → px_dv f b → ¬ px_dv f g
def mo_I (p n d M rest : Nat) : Prop :=
  px_dv rest p ∧ rest ≠ 0 ∧ (∀ f, px_ir f → px_dv f rest → d < f.log2) ∧ (∀ f, px_ir f → px_dv f p → px_dv f rest ∨ px_o f M) ∧ 0 < M ∧ (∀ q, np q → q ∣ M → q ∈ pr_T) ∧ M * 2 ^ rest.log2 ≤ 2 ^ n
theorem mo_start {p n : Nat} (h1 : 2 ^ n ≤ p) (h2 : p < 2 ^ (n + 1)) : mo_I p n 0 1 p := by
  have hp : p ≠ 0 := by have := Nat.two_pow_pos n; omega
  refine ⟨px_dv_refl p, hp, fun f hf _ => px_log_pos hf.1, fun f _ h => Or.inl h, by decide, fun q hq h => ?_, ?_⟩
  · have := Nat.le_of_dvd (by decide) h
    have := hq.1
    omega
  · rw [px_lg h1 h2, Nat.one_mul]
    exact Nat.le_refl _
theorem mo_same {p n d M rest w g : Nat} (ho : p % 2 = 1) (h : mo_I p n d M rest) (hw : px_cg p w (2 ^ 2 ^ (d + 1) ^^^ 2)) (hg : px_G g rest w) (e : g = 1) : mo_I p n (d + 1) M rest := by
  obtain ⟨q1, q2, q3, q4, q5, q6, q7⟩ := h
  refine ⟨q1, q2, fun f hf hd => ?_, q4, q5, q6, q7⟩
  have h1 := q3 f hf hd
  by_cases e2 : f.log2 = d + 1
  · exfalso
    have hfp := px_dv_trans hd q1
    have h3 := px_fermat2 hf (px_dv_odd hfp ho) (px_lg1 (px_ir_ne hf)) (px_lg2 f)
    rw [e2] at h3
    have h4 : px_dv f w := px_cg_dv (px_cg_down hfp hw) h3
    have h5 := px_G_dv hg hd h4
    rw [e] at h5
    have := px_dv_unit h5
    have := hf.1
    omega
  · omega
theorem mo_turn {p n d M rest w g rest' : Nat} (ho : p % 2 = 1) (hd : d + 1 ≤ 32) (h : mo_I p n d M rest) (hw : px_cg p w (2 ^ 2 ^ (d + 1) ^^^ 2)) (hg : px_G g rest w) (e : g ≠ 1) (hr : wo_S rest g rest') : mo_I p n (d + 1) (M * (2 ^ (d + 1) - 1)) rest' := by
  obtain ⟨q1, q2, q3, q4, q5, q6, q7⟩ := h
  obtain ⟨r1, ⟨t, r2⟩, r3, r4⟩ := hr
  have hrr : px_dv rest' rest := by rw [r2, px_m_assoc]; exact px_dv_m _ _
  have hg0 : g ≠ 0 := fun z => q2 (by rw [r2, z, px_m_zero, px_m_zero_left])
  have ht0 : t ≠ 0 := fun z => q2 (by rw [r2, z, px_m_zero])
  have hpos : 2 ^ 1 ≤ 2 ^ (d + 1) := Nat.pow_le_pow_right (by decide) (by omega)
  obtain ⟨f0, hf0, hd0⟩ := px_ir_ex g (px_two_le hg0 e)
  have hgl : d + 1 ≤ g.log2 := by
    have := q3 f0 hf0 (px_dv_trans hd0 hg.1)
    have := (px_dv_le hd0 hg0).2
    omega
  have hgo : ∀ f, px_ir f → px_dv f p → px_dv f g → px_o f (2 ^ (d + 1) - 1) := by
    intro f hf hfp hfg
    have h1 : px_dv f (2 ^ 2 ^ (d + 1) ^^^ 2) := px_cg_dv (px_cg_symm (px_cg_down hfp hw)) (px_dv_trans hfg hg.2.1)
    have e2 : 2 ^ 2 ^ (d + 1) ^^^ 2 = px_m (2 ^ (2 ^ (d + 1) - 1) ^^^ 1) 2 := by
      rw [px_m_xor_left, px_m_one_left, px_m_two, Nat.mul_comm, ← Nat.pow_succ, show Nat.succ (2 ^ (d + 1) - 1) = 2 ^ (d + 1) by omega]
    rw [e2] at h1
    rcases px_euclid hf h1 with h2 | h2
    · exact h2
    · exact absurd h2 (px_odd_dv2 hf.1 (px_dv_odd hfp ho))
  refine ⟨px_dv_trans hrr q1, r1, fun f hf hfr => ?_, fun f hf hfp => ?_, ?_, fun q hq hqd => ?_, ?_⟩
  · have h1 := q3 f hf (px_dv_trans hfr hrr)
    by_cases e2 : f.log2 = d + 1
    · exfalso
      have hfp := px_dv_trans hfr (px_dv_trans hrr q1)
      have h3 := px_fermat2 hf (px_dv_odd hfp ho) (px_lg1 (px_ir_ne hf)) (px_lg2 f)
      rw [e2] at h3
      exact r4 f hf hfr (px_G_dv hg (px_dv_trans hfr hrr) (px_cg_dv (px_cg_down hfp hw) h3))
    · omega
  · rcases q4 f hf hfp with h1 | h1
    · rcases r3 f hf h1 with h2 | h2
      · exact Or.inl h2
      · right
        rw [Nat.mul_comm]
        exact px_o_mul (hgo f hf hfp h2) M
    · right
      exact px_o_mul h1 _
  · exact Nat.mul_pos q5 (by omega)
  · rcases np_euclid hq hqd with h1 | h1
    · exact q6 q hq h1
    · exact pr_all (by omega) hd hq h1
  · have hl : rest.log2 = rest'.log2 + g.log2 + t.log2 := by
      rw [r2, px_log (px_ne0 r1 hg0) ht0, px_log r1 hg0]
    have h1 : 2 ^ (d + 1) * 2 ^ rest'.log2 ≤ 2 ^ rest.log2 := by
      rw [← Nat.pow_add]
      exact Nat.pow_le_pow_right (by decide) (by omega)
    have h2 : (2 ^ (d + 1) - 1) * 2 ^ rest'.log2 ≤ 2 ^ (d + 1) * 2 ^ rest'.log2 := Nat.mul_le_mul_right _ (by omega)
    rw [Nat.mul_assoc]
    exact Nat.le_trans (Nat.mul_le_mul_left M (Nat.le_trans h2 h1)) q7
theorem mo_end {p n M rest : Nat} (h1 : 2 ^ n ≤ p) (h2 : p < 2 ^ (n + 1)) (hn : n ≤ 32) (h : mo_I p n n M rest) : 0 < 32 * M ∧ 32 * M ≤ 32 * 2 ^ n ∧ px_o p (32 * M) ∧ ∀ q, np q → q ∣ 32 * M → q ∈ pr_T := by
  obtain ⟨q1, q2, q3, q4, q5, q6, q7⟩ := h
  have hp : p ≠ 0 := by have := Nat.two_pow_pos n; omega
  have hlp := px_lg h1 h2
  have hno : ∀ f, px_ir f → ¬ px_dv f rest := fun f hf hd => by
    have := q3 f hf hd
    have := (px_dv_le (px_dv_trans hd q1) hp).2
    omega
  have hall : ∀ f, px_ir f → px_dv f p → px_dv f (2 ^ M ^^^ 1) := fun f hf hfp => by
    rcases q4 f hf hfp with z | z
    · exact absurd z (hno f hf)
    · exact z
  refine ⟨by omega, ?_, ?_, fun q hq hqd => ?_⟩
  · have h3 := Nat.two_pow_pos rest.log2
    have h4 : M * 1 ≤ M * 2 ^ rest.log2 := Nat.mul_le_mul_left M h3
    omega
  · have h3 := px_rad 32 p (2 ^ M ^^^ 1) hp (by omega) hall
    rw [show (32 : Nat) = 2 ^ 5 by decide, px_frob, px_pw_one_left, ← px_pw_two M, ← px_pw_mul, px_pw_two] at h3
    unfold px_o
    rw [show 32 * M = M * 2 ^ 5 by omega]
    exact h3
  · rcases np_euclid hq hqd with h3 | h3
    · have h4 : q ∣ np_pr [2, 2, 2, 2, 2] := h3
      obtain ⟨a, ha, hqa⟩ := np_list hq _ h4
      have ha2 : a = 2 := by simpa using ha
      rw [ha2] at hqa
      rw [np_eq hq (pr_T_np 2 (by decide)) hqa]
      decide
    · exact q6 q hq h3
