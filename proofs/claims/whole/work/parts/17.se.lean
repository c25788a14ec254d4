/-! sessions: registers, signatures, and all faults at once -/
noncomputable def rg_t (p reg : Nat) : Nat → Nat
  | 0 => reg
  | t + 1 => px_r p (2 * rg_t p reg t)
theorem rg_lt {p n reg : Nat} (h : md p n) (hr : reg < 2 ^ n) : ∀ t, rg_t p reg t < 2 ^ n
  | 0 => hr
  | _ + 1 => px_r_lt h _
noncomputable def sg (p : Nat) (A : Nat → Nat) : Nat → Nat
  | 0 => 0
  | t + 1 => px_r p (2 * sg p A t) ^^^ px_r p (A t)
theorem sg_lt {p n : Nat} (h : md p n) (A : Nat → Nat) : ∀ t, sg p A t < 2 ^ n
  | 0 => Nat.two_pow_pos n
  | _ + 1 => Nat.xor_lt_two_pow (px_r_lt h _) (px_r_lt h _)
theorem sg_congr (p : Nat) {A B : Nat → Nat} : ∀ t, (∀ j, j < t → A j = B j) → sg p A t = sg p B t
  | 0, _ => rfl
  | t + 1, h => by
    show px_r p (2 * sg p A t) ^^^ px_r p (A t) = _
    rw [sg_congr p t (fun j hj => h j (by omega)), h t (by omega)]
    rfl
theorem sg_lin {p n : Nat} (h : md p n) (A B : Nat → Nat) : ∀ t, sg p A t ^^^ sg p B t = sg p (fun j => A j ^^^ B j) t
  | 0 => by show (0 : Nat) ^^^ 0 = 0; rfl
  | t + 1 => by
    show px_r p (2 * sg p A t) ^^^ px_r p (A t) ^^^ (px_r p (2 * sg p B t) ^^^ px_r p (B t)) = px_r p (2 * sg p (fun j => A j ^^^ B j) t) ^^^ px_r p (A t ^^^ B t)
    rw [← sg_lin h A B t, px_dbl, px_r_xor h, px_r_xor h]
    ac_rfl
theorem sg_zero {p n : Nat} (h : md p n) {A : Nat → Nat} : ∀ t, (∀ j, j < t → A j = 0) → sg p A t = 0
  | 0, _ => rfl
  | t + 1, hz => by
    show px_r p (2 * sg p A t) ^^^ px_r p (A t) = 0
    rw [sg_zero h t (fun j hj => hz j (by omega)), hz t (by omega)]
    have : px_r p 0 = 0 := px_r_self h (Nat.two_pow_pos n)
    rw [Nat.mul_zero, this]
    rfl
theorem sg_step {p n : Nat} (h : md p n) (A : Nat → Nat) (t : Nat) : px_r p (2 * sg p A t ^^^ A t) = sg p A (t + 1) := px_r_xor h _ _
/-- 33 rows of 64 bits: bit f of row k is bit k of D f -/
def dr (r : Nat → Nat) (D : Nat → Nat) : Prop := (∀ k, k < 33 → r k < 2 ^ 64) ∧ ∀ f, f < 64 → D f < 2 ^ 33 ∧ ∀ k, k < 33 → (r k).testBit f = (D f).testBit k
theorem dr_0 {r : Nat → Nat} (h : ∀ k, k < 33 → r k = 0) : dr r (fun _ => 0) := by
  refine ⟨fun k hk => by rw [h k hk]; decide, fun f _ => ⟨Nat.two_pow_pos 33, fun k hk => ?_⟩⟩
  rw [h k hk]
  simp
theorem dr_x {r r' : Nat → Nat} {D : Nat → Nat} (h : dr r D) (hD : ∀ f, f < 64 → D f < 2 ^ 32) (h0 : r' 0 = 0) (hs : ∀ k, k < 32 → r' (k + 1) = r k) : dr r' (fun f => 2 * D f) := by
  refine ⟨fun k hk => ?_, fun f hf => ⟨by have := hD f hf; show 2 * D f < _; omega, fun k hk => ?_⟩⟩
  · cases k with
    | zero => rw [h0]; decide
    | succ k => rw [hs k (by omega)]; exact h.1 k (by omega)
  · show _ = (2 * D f).testBit k
    cases k with
    | zero => rw [h0]; simp [Nat.testBit_zero]
    | succ k =>
      rw [hs k (by omega), (h.2 f hf).2 k (by omega), Nat.testBit_succ, Nat.mul_div_cancel_left _ (by decide)]
/-- row i gets the bits w -/
theorem dr_add {r r' : Nat → Nat} {D : Nat → Nat} {i w : Nat} (h : dr r D) (hi : i < 33) (hw : w < 2 ^ 64) (h1 : r' i = r i ^^^ w) (h2 : ∀ k, k < 33 → k ≠ i → r' k = r k) : dr r' (fun f => if w.testBit f = true then D f ^^^ 2 ^ i else D f) := by
  refine ⟨fun k hk => ?_, fun f hf => ?_⟩
  · by_cases e : k = i
    · subst e; rw [h1]; exact Nat.xor_lt_two_pow (h.1 k hk) hw
    · rw [h2 k hk e]; exact h.1 k hk
  · have hd := h.2 f hf
    show (if w.testBit f = true then D f ^^^ 2 ^ i else D f) < _ ∧ ∀ k, k < 33 → _ = (if w.testBit f = true then D f ^^^ 2 ^ i else D f).testBit k
    refine ⟨?_, fun k hk => ?_⟩
    · split
      · exact Nat.xor_lt_two_pow hd.1 (Nat.pow_lt_pow_right (by decide) hi)
      · exact hd.1
    · by_cases e : k = i
      · subst e
        rw [h1, Nat.testBit_xor, hd.2 k hk]
        split
        · rename_i hb
          rw [hb, Nat.testBit_xor, Nat.testBit_two_pow_self]
        · rename_i hb
          simp only [Bool.not_eq_true] at hb
          rw [hb]
          simp
      · rw [h2 k hk e, hd.2 k hk]
        split
        · rw [Nat.testBit_xor, Nat.testBit_two_pow_of_ne (fun z => e z.symm)]
          simp
        · rfl
theorem dr_congr {r : Nat → Nat} {D D' : Nat → Nat} (h : dr r D) (he : ∀ f, f < 64 → D' f = D f) : dr r D' := ⟨h.1, fun f hf => by rw [he f hf]; exact h.2 f hf⟩
/-- p times x^s below bit 33, down to its bit j -/
def dr_p (p s : Nat) : Nat → Nat
  | 0 => 0
  | j + 1 => dr_p p s j ^^^ (if p.testBit j = true ∧ j + s < 33 then 2 ^ (j + s) else 0)
theorem dr_p_bit (p s : Nat) : ∀ j k, (dr_p p s j).testBit k = (decide (s ≤ k) && decide (k < 33) && decide (k - s < j) && p.testBit (k - s)) := by
  intro j
  induction j with
  | zero => intro k; simp [dr_p]
  | succ j ih =>
    intro k
    show (dr_p p s j ^^^ _).testBit k = _
    rw [Nat.testBit_xor, ih]
    by_cases hk : k = j + s
    · subst hk
      rw [show j + s - s = j by omega]
      by_cases hc : p.testBit j = true ∧ j + s < 33
      · rw [if_pos hc, Nat.testBit_two_pow_self, hc.1]
        simp [hc.2]
      · rw [if_neg hc]
        simp only [Nat.zero_testBit]
        by_cases hb : p.testBit j = true
        · have : ¬ j + s < 33 := fun z => hc ⟨hb, z⟩
          simp [this]
        · simp only [Bool.not_eq_true] at hb
          simp [hb]
    · have e2 : (if p.testBit j = true ∧ j + s < 33 then 2 ^ (j + s) else 0).testBit k = false := by
        split
        · exact Nat.testBit_two_pow_of_ne (fun z => hk z.symm)
        · exact Nat.zero_testBit k
      rw [e2]
      by_cases hs : s ≤ k
      · rw [show decide (k - s < j + 1) = decide (k - s < j) by rw [decide_eq_decide]; omega]
        simp
      · simp [hs]
theorem dr_p_all {p n s j : Nat} (hp : p < 2 ^ (n + 1)) (hs : n + s ≤ 32) (hj : n < j) : dr_p p s j = p * 2 ^ s := by
  apply Nat.eq_of_testBit_eq
  intro k
  rw [dr_p_bit, Nat.testBit_mul_two_pow]
  by_cases h1 : s ≤ k
  · by_cases h2 : p.testBit (k - s) = true
    · have h3 : k - s ≤ n := by
        apply Classical.byContradiction
        intro hn
        rw [Nat.testBit_lt_two_pow (Nat.lt_of_lt_of_le hp (Nat.pow_le_pow_right (by decide) (by omega)))] at h2
        cases h2
      simp [h1, h2, show k < 33 by omega, show k - s < j by omega]
    · simp only [Bool.not_eq_true] at h2
      simp [h2]
  · simp [h1]
/-! taking p times x^s away from those faults' rows that 'top' names -/
theorem dr_sub {r r' D : Nat → Nat} {top p s j : Nat} (h : dr r (fun f => if top.testBit f = true then D f ^^^ dr_p p s j else D f)) (hj : j + s < 33) (ht : top < 2 ^ 64) (hb : p.testBit j = true) (h1 : r' (j + s) = r (j + s) ^^^ top) (h2 : ∀ k, k < 33 → k ≠ j + s → r' k = r k) :
    dr r' (fun f => if top.testBit f = true then D f ^^^ dr_p p s (j + 1) else D f) := by
  refine dr_congr (dr_add h hj ht h1 h2) (fun f hf => ?_)
  show (if top.testBit f = true then D f ^^^ dr_p p s (j + 1) else D f) = if top.testBit f = true then (if top.testBit f = true then D f ^^^ dr_p p s j else D f) ^^^ 2 ^ (j + s) else (if top.testBit f = true then D f ^^^ dr_p p s j else D f)
  have e : dr_p p s (j + 1) = dr_p p s j ^^^ 2 ^ (j + s) := by
    show dr_p p s j ^^^ _ = _
    rw [if_pos ⟨hb, hj⟩]
  cases top.testBit f
  · rfl
  · simp only [if_true]
    rw [e, Nat.xor_assoc]
theorem dr_skip {p s j : Nat} (hb : ¬ p.testBit j = true) : dr_p p s (j + 1) = dr_p p s j := by
  show dr_p p s j ^^^ _ = _
  rw [if_neg (fun z => hb z.1), Nat.xor_zero]
theorem tb_div (v k : Nat) : (v.testBit k = true) ↔ v / 2 ^ k % 2 = 1 := by
  rw [Nat.testBit_eq_decide_div_mod_eq]
  simp
theorem dr_red {r r' D : Nat → Nat} {p n k : Nat} (hm : md p n) (h : dr r D) (hk : n ≤ k) (hk2 : k < 33) (hD : ∀ f, f < 64 → D f < 2 ^ (k + 1)) (h' : dr r' (fun f => if (r k).testBit f = true then D f ^^^ p * 2 ^ (k - n) else D f)) :
    ∃ D', dr r' D' ∧ ∀ f, f < 64 → D' f < 2 ^ k ∧ px_cg p (D' f) (D f) := by
  refine ⟨_, h', fun f hf => ?_⟩
  have h1 := dv_turn hm.2.2.1 hm.2.2.2.1 hk (hD f hf)
  have e : ((r k).testBit f = true) = (D f / 2 ^ k % 2 = 1) := by rw [(h.2 f hf).2 k hk2, tb_div]
  show (if (r k).testBit f = true then D f ^^^ p * 2 ^ (k - n) else D f) < 2 ^ k ∧ px_cg p (if (r k).testBit f = true then D f ^^^ p * 2 ^ (k - n) else D f) (D f)
  simp only [e]
  exact h1
/-- the sum of some rows' bits: which faults differ at all -/
def dr_or (r : Nat → Nat) : Nat → Nat
  | 0 => 0
  | k + 1 => dr_or r k ||| r k
theorem dr_or_lt {r : Nat → Nat} : ∀ k, (∀ j, j < k → r j < 2 ^ 64) → dr_or r k < 2 ^ 64
  | 0, _ => Nat.two_pow_pos 64
  | k + 1, h => Nat.or_lt_two_pow (dr_or_lt k (fun j hj => h j (by omega))) (h k (by omega))
theorem dr_or_bit (r : Nat → Nat) (f : Nat) : ∀ k, (dr_or r k).testBit f = true ↔ ∃ j, j < k ∧ (r j).testBit f = true := by
  intro k
  induction k with
  | zero => simp [dr_or]
  | succ k ih =>
    show (dr_or r k ||| r k).testBit f = true ↔ _
    rw [Nat.testBit_or, Bool.or_eq_true, ih]
    constructor
    · rintro (⟨j, h1, h2⟩ | h)
      · exact ⟨j, by omega, h2⟩
      · exact ⟨k, by omega, h⟩
    · rintro ⟨j, h1, h2⟩
      by_cases e : j = k
      · subst e; exact Or.inr h2
      · exact Or.inl ⟨j, by omega, h2⟩
theorem dr_found {r D : Nat → Nat} (h : dr r D) {f : Nat} (hf : f < 64) : (dr_or r 33).testBit f = true ↔ D f ≠ 0 := by
  rw [dr_or_bit]
  constructor
  · rintro ⟨j, h1, h2⟩ e
    rw [(h.2 f hf).2 j h1, e] at h2
    simp at h2
  · intro hne
    apply Classical.byContradiction
    intro hn
    apply hne
    apply Nat.eq_of_testBit_eq
    intro i
    rw [Nat.zero_testBit]
    by_cases hi : i < 33
    · rw [← (h.2 f hf).2 i hi]
      cases hb : (r i).testBit f
      · rfl
      · exact absurd ⟨i, hi, hb⟩ hn
    · exact Nat.testBit_lt_two_pow (Nat.lt_of_lt_of_le (h.2 f hf).1 (Nat.pow_le_pow_right (by decide) (by omega)))
/-! counting -/
def cn_t (P : Nat → Bool) : Nat → Nat
  | 0 => 0
  | k + 1 => cn_t P k + (if P k = true then 1 else 0)
theorem cn_congr {P P' : Nat → Bool} : ∀ k, (∀ j, j < k → P j = P' j) → cn_t P k = cn_t P' k
  | 0, _ => rfl
  | k + 1, h => by
    show cn_t P k + _ = cn_t P' k + _
    rw [cn_congr k (fun j hj => h j (by omega)), h k (by omega)]
theorem cn_pc (v : Nat) : ∀ k, pc_n v k = cn_t (fun f => v.testBit f) k
  | 0 => rfl
  | k + 1 => by
    show pc_n v k + v / 2 ^ k % 2 = cn_t (fun f => v.testBit f) k + (if v.testBit k = true then 1 else 0)
    rw [cn_pc v k]
    by_cases h : v.testBit k = true
    · rw [if_pos h, (tb_div v k).mp h]
    · rw [if_neg h]
      have : ¬ v / 2 ^ k % 2 = 1 := fun z => h ((tb_div v k).mpr z)
      omega
theorem cn_big {P : Nat → Bool} {k : Nat} (h : ∀ j, k ≤ j → P j = false) : ∀ j, k ≤ j → cn_t P j = cn_t P k := by
  intro j
  induction j with
  | zero => intro hj; rw [show k = 0 by omega]
  | succ j ih =>
    intro hj
    by_cases e : k = j + 1
    · rw [e]
    · show cn_t P j + _ = _
      rw [ih (by omega), h j (by omega)]
      rfl
/-! the answers with faults beyond the last line are those without -/
theorem ci_beyond {cc : Nat} {kd lf rg : Nat → Nat} {pt f : Nat} : ∀ k, k ≤ f / 2 → ∀ j, ci_t cc kd lf rg pt (some f) k j = ci_t cc kd lf rg pt none k j := by
  intro k
  induction k with
  | zero => intro _ _; rfl
  | succ k ih =>
    intro hk j
    have e : ci_t cc kd lf rg pt (some f) k = ci_t cc kd lf rg pt none k := funext (ih (by omega))
    show (if j = k then ci_s (some f) k (ci_v cc kd lf rg pt (ci_t cc kd lf rg pt (some f) k) k) else ci_t cc kd lf rg pt (some f) k j) = (if j = k then ci_s none k (ci_v cc kd lf rg pt (ci_t cc kd lf rg pt none k) k) else ci_t cc kd lf rg pt none k j)
    rw [e]
    have e2 : ∀ b, ci_s (some f) k b = ci_s none k b := fun b => by
      show (if f / 2 = k then (f % 2 == 1) else b) = b
      rw [if_neg (by omega)]
    rw [e2]
/-- the sum of two answers, output by output -/
theorem ci_a_x (ol : Nat → Nat) (F N : Nat → Bool) (i : Nat) : ci_a ol F (i + 1) ^^^ ci_a ol N (i + 1) = if (F (ol i) ^^ N (ol i)) = true then (ci_a ol F i ^^^ ci_a ol N i) ^^^ 2 ^ i else ci_a ol F i ^^^ ci_a ol N i := by
  have e : ∀ G : Nat → Bool, ci_a ol G (i + 1) = ci_a ol G i ^^^ (if G (ol i) = true then 2 ^ i else 0) := by
    intro G
    have hlt := ci_a_lt ol G i
    show ci_a ol G i + _ = _
    split
    · apply Nat.eq_of_testBit_eq
      intro j
      rw [Nat.add_comm, Nat.testBit_xor, Nat.testBit_two_pow]
      rcases Nat.lt_trichotomy j i with h | h | h
      · rw [Nat.testBit_two_pow_add_gt h]
        simp [show ¬ i = j by omega]
      · subst h
        rw [Nat.testBit_two_pow_add_eq]
        simp
      · have h2 : 2 ^ (i + 1) ≤ 2 ^ j := Nat.pow_le_pow_right (by decide) h
        rw [Nat.pow_succ] at h2
        rw [Nat.testBit_lt_two_pow (by omega), Nat.testBit_lt_two_pow (show ci_a ol G i < 2 ^ j by omega)]
        simp [show ¬ i = j by omega]
    · rw [Nat.xor_zero, Nat.add_zero]
  rw [e F, e N]
  generalize ci_a ol F i = a
  generalize ci_a ol N i = b
  cases F (ol i) <;> cases N (ol i) <;> simp
  · ac_rfl
  · ac_rfl
  · rw [show a ^^^ 2 ^ i ^^^ (b ^^^ 2 ^ i) = a ^^^ b ^^^ 2 ^ i ^^^ 2 ^ i by ac_rfl, px_cc]
theorem ci_a_ne (ol : Nat → Nat) (F N : Nat → Bool) (oc : Nat) : ci_a ol F oc ≠ ci_a ol N oc ↔ ∃ i, i < oc ∧ (F (ol i) ^^ N (ol i)) = true := by
  constructor
  · intro hne
    apply Classical.byContradiction
    intro hn
    apply hne
    apply ci_a_congr
    intro j hj
    cases hb : (F (ol j) ^^ N (ol j))
    · revert hb
      cases F (ol j) <;> cases N (ol j) <;> simp
    · exact absurd ⟨j, hj, hb⟩ hn
  · rintro ⟨i, hi, hb⟩ e
    have h1 := ci_a_bit ol F oc i
    have h2 := ci_a_bit ol N oc i
    rw [e, h2] at h1
    simp only [hi, decide_true, Bool.true_and] at h1
    rw [h1] at hb
    simp at hb
