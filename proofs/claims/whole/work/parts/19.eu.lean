/-! Euclid's way, and quotients -/
noncomputable def eu : Nat → Nat → Nat → Nat
  | 0, a, _ => a
  | k + 1, a, b => if b = 0 then a else eu k b (px_r b a)
theorem px_r_div {b : Nat} (hb : b ≠ 0) (a : Nat) : ∃ q, a = px_m q b ^^^ px_r b a := by
  obtain ⟨q, e⟩ := (px_r_spec hb a).2
  refine ⟨q, ?_⟩
  rw [px_m_comm, ← e, Nat.xor_comm (px_r b a) a, px_cc]
theorem eu_ok : ∀ (k a b : Nat), b < 2 ^ k → px_G (eu (k + 1) a b) a b := by
  intro k
  induction k with
  | zero =>
    intro a b hb
    have : b = 0 := by simpa using hb
    subst this
    exact px_G_self a
  | succ k ih =>
    intro a b hb
    by_cases h0 : b = 0
    · subst h0
      exact px_G_self a
    · have e : eu (k + 1 + 1) a b = eu (k + 1) b (px_r b a) := by
        show (if b = 0 then a else eu (k + 1) b (px_r b a)) = _
        rw [if_neg h0]
      rw [e]
      have hl : b.log2 ≤ k := by
        have := (Nat.log2_lt h0).2 hb
        omega
      have hr := (px_r_spec h0 a).1
      have h2 : 2 ^ b.log2 ≤ 2 ^ k := Nat.pow_le_pow_right (by decide) hl
      obtain ⟨q, eq⟩ := px_r_div h0 a
      exact px_G_turn eq (ih b (px_r b a) (by omega))
theorem px_dv_lt {f a k : Nat} (h : px_dv f a) (ha : a ≠ 0) (hk : a < 2 ^ k) : f < 2 ^ k := by
  obtain ⟨hf, hl⟩ := px_dv_le h ha
  have h1 := px_lg2 f
  have h2 : a.log2 < k := (Nat.log2_lt ha).2 hk
  have h3 : 2 ^ (f.log2 + 1) ≤ 2 ^ k := Nat.pow_le_pow_right (by decide) (by omega)
  omega
theorem qt_ex (a b : Nat) (hb : b ≠ 0) : ∃ q, ∃ r, a = px_m q b ^^^ r ∧ r < 2 ^ b.log2 := px_div (px_lg1 hb) (px_lg2 b) a
noncomputable def qt (a b : Nat) : Nat := if h : b ≠ 0 then Classical.choose (qt_ex a b h) else 0
theorem qt_of {a b q r : Nat} (hb : b ≠ 0) (e : a = px_m q b ^^^ r) (hr : r < 2 ^ b.log2) : qt a b = q := by
  unfold qt
  rw [dif_pos hb]
  obtain ⟨r', e', hr'⟩ := Classical.choose_spec (qt_ex a b hb)
  generalize Classical.choose (qt_ex a b hb) = q' at *
  have h1 : px_m (q' ^^^ q) b = r' ^^^ r := by
    rw [px_m_xor_left]
    have h2 : px_m q' b = a ^^^ r' := by rw [e', px_cc]
    have h3 : px_m q b = a ^^^ r := by rw [e, px_cc]
    rw [h2, h3, show a ^^^ r' ^^^ (a ^^^ r) = r' ^^^ r ^^^ a ^^^ a by ac_rfl, px_cc]
  have h4 : px_dv b (r' ^^^ r) := ⟨q' ^^^ q, by rw [← h1, px_m_comm]⟩
  have h5 := px_dv_small h4 (Nat.xor_lt_two_pow hr' hr) (px_lg1 hb)
  rw [h5] at h1
  rcases px_zero h1 with z | z
  · exact px_eq0 z
  · exact absurd z hb
theorem qt_dv {a b : Nat} (hb : b ≠ 0) (h : px_dv b a) : a = px_m (qt a b) b := by
  obtain ⟨q, e⟩ := h
  have e2 : a = px_m q b ^^^ 0 := by rw [e, Nat.xor_zero, px_m_comm]
  rw [qt_of hb e2 (Nat.two_pow_pos _), e, px_m_comm]
/-! what is left when all that is shared is divided out -/
noncomputable def wo : Nat → Nat → Nat → Nat
  | 0, r, _ => r
  | k + 1, r, sh => if sh = 1 then r else wo k (qt r sh) (eu 65 (qt r sh) sh)
theorem wo_ok : ∀ (k r sh : Nat), r ≠ 0 → r < 2 ^ 64 → r.log2 < k → px_dv sh r → wo k r sh ≠ 0 ∧ px_dv (wo k r sh) r ∧ (∀ f, px_ir f → px_dv f r → px_dv f (wo k r sh) ∨ px_dv f sh) ∧ (∀ f, px_ir f → px_dv f (wo k r sh) → ¬ px_dv f sh) ∧ (sh ≠ 1 → ∃ t, r = px_m (px_m (wo k r sh) sh) t) := by
  intro k
  induction k with
  | zero => intro r sh _ _ h; omega
  | succ k ih =>
    intro r sh hr hlt hl hd
    by_cases h1 : sh = 1
    · have e : wo (k + 1) r sh = r := by
        show (if sh = 1 then r else _) = r
        rw [if_pos h1]
      rw [e]
      refine ⟨hr, px_dv_refl r, fun f _ h => Or.inl h, fun f hf _ h => ?_, fun h => absurd h1 h⟩
      rw [h1] at h
      have := px_dv_unit h
      have := hf.1
      omega
    · have e : wo (k + 1) r sh = wo k (qt r sh) (eu 65 (qt r sh) sh) := by
        show (if sh = 1 then r else _) = _
        rw [if_neg h1]
      rw [e]
      obtain ⟨hs0, -⟩ := px_dv_le hd hr
      have eq := qt_dv hs0 hd
      have hq0 : qt r sh ≠ 0 := fun z => hr (by rw [eq, z, px_m_zero_left])
      have hlog := px_log hq0 hs0
      rw [← eq] at hlog
      have := px_log_pos (px_two_le hs0 h1)
      have hqr : px_dv (qt r sh) r := ⟨sh, eq⟩
      have hG : px_G (eu 65 (qt r sh) sh) (qt r sh) sh := eu_ok 64 _ _ (px_dv_lt hd hr hlt)
      obtain ⟨q1, q2, q3, q4, -⟩ := ih (qt r sh) (eu 65 (qt r sh) sh) hq0 (px_dv_lt hqr hr hlt) (by omega) hG.1
      refine ⟨q1, px_dv_trans q2 hqr, fun f hf h => ?_, fun f hf h h2 => ?_, fun _ => ?_⟩
      · rw [eq] at h
        rcases px_euclid hf h with h3 | h3
        · rcases q3 f hf h3 with h4 | h4
          · exact Or.inl h4
          · exact Or.inr (px_dv_trans h4 hG.2.1)
        · exact Or.inr h3
      · exact q4 f hf h (px_G_dv hG (px_dv_trans h q2) h2)
      · obtain ⟨t, et⟩ := q2
        refine ⟨t, ?_⟩
        conv => lhs; rw [eq]
        generalize wo k (qt r sh) (eu 65 (qt r sh) sh) = z at *
        rw [et, px_m_assoc, px_m_assoc, px_m_comm t sh]
theorem px_G_same {g a : Nat} (h : px_dv g a) {d : Nat} (hd : px_G d a g) : d = g := px_dv_anti hd.2.1 (px_G_dv hd h (px_dv_refl g))
theorem wo_S_of {a g : Nat} (ha : a ≠ 0) (hlt : a < 2 ^ 64) (h : px_dv g a) (h1 : g ≠ 1) : wo_S a g (wo 64 a g) := by
  have hl : a.log2 < 64 := (Nat.log2_lt ha).2 hlt
  obtain ⟨q1, q2, q3, q4, q5⟩ := wo_ok 64 a g ha hlt hl h
  exact ⟨q1, q5 h1, q3, q4⟩
/-- x^(2^d), as the programs reckon it -/
theorem fr_next {p n : Nat} (h : md p n) (d : Nat) : px_r p (px_m (px_r p (2 ^ 2 ^ d)) (px_r p (2 ^ 2 ^ d))) = px_r p (2 ^ 2 ^ (d + 1)) := by
  rw [px_r_ml h, px_r_mr h, ← px_2add, Nat.pow_succ (n := 2) (m := d), Nat.mul_two]
theorem fr_w {p n : Nat} (h : md p n) (d : Nat) : px_cg p (px_r p (2 ^ 2 ^ d) ^^^ px_r p 2) (2 ^ 2 ^ d ^^^ 2) := px_cg_xor (px_r_cg h _) (px_r_cg h _)
/-- x^k is told by the residue of 2 -/
theorem xp_eq {p n : Nat} (h : md p n) (k : Nat) : px_r p (px_pw (px_r p 2) k) = px_r p (2 ^ k) := by rw [px_r_pw h, px_pw_two]
theorem xp_o {p n : Nat} (h : md p n) (k : Nat) : px_r p (2 ^ k) = 1 ↔ px_o p k := by
  constructor
  · intro e
    have h1 := px_r_cg h (2 ^ k)
    rw [e] at h1
    exact px_cg_symm h1
  · intro e
    rw [(px_r_iff h (2 ^ k) 1).2 e, md_odd1 h]
