/-! a step of a session, for all faults at once: the rows' differences and which faults were seen -/
def aa_I (ol : Nat → Nat) (F : Nat → Nat → Bool) (N : Nat → Bool) (DF : Nat → Nat) (sn i : Nat) (r : Nat → Nat) (s : Nat) : Prop :=
  dr r (fun f => DF f ^^^ (ci_a ol (F f) i ^^^ ci_a ol N i)) ∧ s < 2 ^ 64 ∧ ∀ f, f < 64 → (s.testBit f = true ↔ sn.testBit f = true ∨ ∃ j, j < i ∧ (F f (ol j) ^^ N (ol j)) = true)
theorem aa_0 {ol : Nat → Nat} {F : Nat → Nat → Bool} {N : Nat → Bool} {DF : Nat → Nat} {sn : Nat} {r : Nat → Nat} (h : dr r DF) (hs : sn < 2 ^ 64) : aa_I ol F N DF sn 0 r sn := by
  refine ⟨dr_congr h (fun f _ => ?_), hs, fun f _ => ⟨Or.inl, fun z => ?_⟩⟩
  · show DF f ^^^ (0 ^^^ 0) = DF f
    simp
  · rcases z with z | ⟨j, hj, _⟩
    · exact z
    · omega
theorem aa_turn {ol : Nat → Nat} {F : Nat → Nat → Bool} {N : Nat → Bool} {DF : Nat → Nat} {sn i s w : Nat} {r r' : Nat → Nat} (h : aa_I ol F N DF sn i r s) (hi : i < 33) (hw : w < 2 ^ 64) (hb : ∀ f, f < 64 → w.testBit f = (F f (ol i) ^^ N (ol i))) (h1 : r' i = r i ^^^ w) (h2 : ∀ k, k < 33 → k ≠ i → r' k = r k) : aa_I ol F N DF sn (i + 1) r' (s ||| w) := by
  obtain ⟨hd, hs, hf⟩ := h
  refine ⟨dr_congr (dr_add hd hi hw h1 h2) (fun f hf => ?_), Nat.or_lt_two_pow hs hw, fun f hf2 => ?_⟩
  · show DF f ^^^ (ci_a ol (F f) (i + 1) ^^^ ci_a ol N (i + 1)) = if w.testBit f = true then DF f ^^^ (ci_a ol (F f) i ^^^ ci_a ol N i) ^^^ 2 ^ i else DF f ^^^ (ci_a ol (F f) i ^^^ ci_a ol N i)
    rw [ci_a_x, hb f hf]
    split
    · ac_rfl
    · rfl
  · rw [Nat.testBit_or, Bool.or_eq_true, hf f hf2, hb f hf2]
    constructor
    · rintro ((z | ⟨j, hj, z⟩) | z)
      · exact Or.inl z
      · exact Or.inr ⟨j, by omega, z⟩
      · exact Or.inr ⟨i, by omega, z⟩
    · rintro (z | ⟨j, hj, z⟩)
      · exact Or.inl (Or.inl z)
      · by_cases e : j = i
        · subst e; exact Or.inr z
        · exact Or.inl (Or.inr ⟨j, by omega, z⟩)
theorem aa_end {ol : Nat → Nat} {F : Nat → Nat → Bool} {N : Nat → Bool} {DF : Nat → Nat} {sn i s : Nat} {r : Nat → Nat} (h : aa_I ol F N DF sn i r s) : dr r (fun f => DF f ^^^ (ci_a ol (F f) i ^^^ ci_a ol N i)) ∧ s < 2 ^ 64 ∧ ∀ f, f < 64 → (s.testBit f = true ↔ sn.testBit f = true ∨ ci_a ol (F f) i ≠ ci_a ol N i) :=
  ⟨h.1, h.2.1, fun f hf => by rw [h.2.2 f hf, ci_a_ne]⟩
theorem aa_w {v a i : Nat} {ol : Nat → Nat} {N : Nat → Bool} {oc f : Nat} {b : Bool} (hf : f < 64) (hb : v.testBit f = b) (hi : i < oc) (ha : a = ci_a ol N oc) : (v ^^^ ci_p ((a / 2 ^ i).testBit 0)).testBit f = (b ^^ N (ol i)) := by
  rw [Nat.testBit_xor, hb, ci_p_bit _ hf, sh_bit, ha, ci_a_bit]
  simp [hi]
