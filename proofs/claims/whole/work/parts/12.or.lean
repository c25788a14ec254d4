/-! orders: px_o p k: x^k leaves 1 -/
def px_o (p k : Nat) : Prop := px_dv p (2 ^ k ^^^ 1)
theorem px_2add (a b : Nat) : 2 ^ (a + b) = px_m (2 ^ a) (2 ^ b) := by rw [← px_pw_two, ← px_pw_two, ← px_pw_two, px_pw_add]
theorem px_o_0 (p : Nat) : px_o p 0 := by unfold px_o; rw [Nat.pow_zero, Nat.xor_self]; exact px_dv_zero p
theorem px_o_add {p a b : Nat} (ha : px_o p a) (hb : px_o p b) : px_o p (a + b) := by
  have h : px_cg p (px_m (2 ^ a) (2 ^ b)) (px_m 1 1) := px_cg_m ha hb
  rw [px_m_one, ← px_2add] at h
  exact h
theorem px_o_sub {p a b : Nat} (h : px_o p (a + b)) (ha : px_o p a) : px_o p b := by
  have h1 : px_cg p (px_m (2 ^ a) (2 ^ b)) (px_m 1 (2 ^ b)) := px_cg_m ha (px_cg_refl p _)
  rw [px_m_one_left, ← px_2add] at h1
  exact px_cg_trans (px_cg_symm h1) h
theorem px_o_mul {p a : Nat} (ha : px_o p a) (k : Nat) : px_o p (a * k) := by
  induction k with
  | zero => exact px_o_0 p
  | succ k ih => rw [Nat.mul_succ]; exact px_o_add ih ha
theorem px_o_dvd {p a b : Nat} (ha : px_o p a) (h : a ∣ b) : px_o p b := by
  obtain ⟨k, rfl⟩ := h
  exact px_o_mul ha k
def px_ord (p k : Nat) : Prop := 0 < k ∧ px_o p k ∧ ∀ j, 0 < j → j < k → ¬ px_o p j
theorem px_ord_dvd {p k m : Nat} (h : px_ord p k) (hm : px_o p m) : k ∣ m := by
  have e := Nat.div_add_mod m k
  have h1 : px_o p (m % k) := by
    rw [← e] at hm
    exact px_o_sub hm (px_o_mul h.2.1 _)
  have h2 := Nat.mod_lt m h.1
  by_cases h0 : m % k = 0
  · exact Nat.dvd_of_mod_eq_zero h0
  · exact absurd h1 (h.2.2 _ (by omega) h2)
theorem px_ord_ex {p m : Nat} (h0 : 0 < m) (hm : px_o p m) : ∃ k, px_ord p k := by
  obtain ⟨k, ⟨h1, h2⟩, h3⟩ := pk_least (fun k => 0 < k ∧ px_o p k) ⟨m, h0, hm⟩
  exact ⟨k, h1, h2, fun j hj hjk hp => h3 j hjk ⟨hj, hp⟩⟩
theorem px_ord_uniq {p k j : Nat} (h1 : px_ord p k) (h2 : px_ord p j) : k = j := Nat.dvd_antisymm (px_ord_dvd h1 h2.2.1) (px_ord_dvd h2 h1.2.1)
/-! primes -/
def np (q : Nat) : Prop := 2 ≤ q ∧ ∀ d, d ∣ q → d = 1 ∨ d = q
theorem np_ex : ∀ n : Nat, 2 ≤ n → ∃ q, np q ∧ q ∣ n := by
  intro n
  induction n using Nat.strongRecOn with
  | _ n ih =>
    intro hn
    by_cases hp : np n
    · exact ⟨n, hp, Nat.dvd_refl n⟩
    · have : ∃ d, d ∣ n ∧ d ≠ 1 ∧ d ≠ n := by
        apply Classical.byContradiction
        intro hc
        apply hp
        refine ⟨hn, fun d hd => ?_⟩
        by_cases h1 : d = 1
        · exact Or.inl h1
        · by_cases h2 : d = n
          · exact Or.inr h2
          · exact absurd ⟨d, hd, h1, h2⟩ hc
      obtain ⟨d, hd, h1, h2⟩ := this
      have hle := Nat.le_of_dvd (by omega) hd
      have hd0 : d ≠ 0 := fun e => by rw [e] at hd; have := Nat.eq_zero_of_zero_dvd hd; omega
      obtain ⟨q, hq, hqd⟩ := ih d (by omega) (by omega)
      exact ⟨q, hq, Nat.dvd_trans hqd hd⟩
theorem np_euclid {q a b : Nat} (hq : np q) (h : q ∣ a * b) : q ∣ a ∨ q ∣ b := by
  rcases hq.2 (Nat.gcd q a) (Nat.gcd_dvd_left q a) with e | e
  · right
    have hc : Nat.Coprime q a := e
    exact hc.dvd_of_dvd_mul_left h
  · left
    rw [← e]
    exact Nat.gcd_dvd_right q a
theorem np_eq {q r : Nat} (hq : np q) (hr : np r) (h : q ∣ r) : q = r := by
  rcases hr.2 q h with e | e
  · have := hq.1; omega
  · exact e
def np_pr : List Nat → Nat
  | [] => 1
  | a :: l => a * np_pr l
theorem np_list {q : Nat} (hq : np q) : ∀ l : List Nat, q ∣ np_pr l → ∃ a ∈ l, q ∣ a
  | [], h => by
    have h1 : np_pr [] = 1 := rfl
    rw [h1] at h
    have := Nat.le_of_dvd (by decide) h
    have := hq.1
    omega
  | a :: l, h => by
    rcases np_euclid hq h with h1 | h1
    · exact ⟨a, List.mem_cons_self, h1⟩
    · obtain ⟨b, hb, hd⟩ := np_list hq l h1
      exact ⟨b, List.mem_cons_of_mem _ hb, hd⟩
def np_chk (q N : Nat) : Nat → Bool
  | 0 => true
  | f + 1 => (q % (N - f) != 0) && np_chk q N f
theorem np_chk_ok (q N : Nat) : ∀ f, np_chk q N f = true → ∀ d, N - f < d → d ≤ N → q % d ≠ 0 := by
  intro f
  induction f with
  | zero => intro _ d h1 h2; omega
  | succ f ih =>
    intro h d h1 h2
    simp only [np_chk, Bool.and_eq_true, bne_iff_ne, ne_eq] at h
    by_cases e : d = N - f
    · rw [e]; exact h.1
    · exact ih h.2 d (by omega) h2
theorem np_of {q N : Nat} (h2 : 2 ≤ q) (hN : q < (N + 1) * (N + 1)) (h1 : 1 ≤ N) (h : np_chk q N (N - 1) = true) : np q := by
  refine ⟨h2, fun d hd => ?_⟩
  obtain ⟨k, e⟩ := hd
  by_cases hd1 : d = 1
  · exact Or.inl hd1
  · by_cases hk1 : k = 1
    · right; rw [e, hk1, Nat.mul_one]
    · exfalso
      have hd0 : d ≠ 0 := fun z => by rw [z, Nat.zero_mul] at e; omega
      have hk0 : k ≠ 0 := fun z => by rw [z, Nat.mul_zero] at e; omega
      by_cases hle : d ≤ N
      · exact np_chk_ok q N _ h d (by omega) hle (by rw [e]; exact Nat.mul_mod_right d k)
      · by_cases hle2 : k ≤ N
        · exact np_chk_ok q N _ h k (by omega) hle2 (by rw [e]; exact Nat.mul_mod_left d k)
        · have := Nat.mul_le_mul (show N + 1 ≤ d by omega) (show N + 1 ≤ k by omega)
          omega
/-- an order, told by the primes of a multiple -/
theorem px_ord_crit {p m : Nat} (h0 : 0 < m) (hm : px_o p m) (h : ∀ q, np q → q ∣ m → ¬ px_o p (m / q)) : px_ord p m := by
  obtain ⟨k, hk⟩ := px_ord_ex h0 hm
  obtain ⟨t, e⟩ := px_ord_dvd hk hm
  by_cases ht : t = 1
  · rw [e, ht, Nat.mul_one]; exact hk
  · exfalso
    have ht0 : t ≠ 0 := fun z => by rw [z, Nat.mul_zero] at e; omega
    obtain ⟨q, hq, s, es⟩ := np_ex t (by omega)
    have hq0 := hq.1
    have e2 : m = q * (k * s) := by rw [e, es, Nat.mul_left_comm]
    refine h q hq ⟨k * s, e2⟩ ?_
    rw [e2, Nat.mul_div_cancel_left _ (by omega)]
    exact px_o_mul hk.2.1 s
theorem px_ord_crit' {p m : Nat} (h : px_ord p m) : ∀ q, np q → q ∣ m → ¬ px_o p (m / q) := by
  intro q hq hd
  have h0 := h.1
  have := hq.1
  refine h.2.2 _ (Nat.div_pos (Nat.le_of_dvd h0 hd) (by omega)) (Nat.div_lt_self h0 (by omega))
/-! the program's way: needless primes are divided out, one after the other -/
def ow_1 (o : Nat → Bool) (q : Nat) : Nat → Nat → Nat
  | 0, m => m
  | f + 1, m => if m % q = 0 then (if o (m / q) = true then ow_1 o q f (m / q) else m) else m
def ow_A (o : Nat → Bool) : List Nat → Nat → Nat
  | [], m => m
  | q :: l, m => ow_A o l (ow_1 o q 64 m)
theorem ow_1_ok {p : Nat} {o : Nat → Bool} (ho : ∀ e, o e = true ↔ px_o p e) {q : Nat} (hq : 2 ≤ q) : ∀ (f m : Nat), 0 < m → m < 2 ^ f → px_o p m → 0 < ow_1 o q f m ∧ px_o p (ow_1 o q f m) ∧ ow_1 o q f m ∣ m ∧ ¬ (q ∣ ow_1 o q f m ∧ px_o p (ow_1 o q f m / q)) := by
  intro f
  induction f with
  | zero => intro m h0 h1; simp at h1; omega
  | succ f ih =>
    intro m h0 h1 hm
    by_cases hd : m % q = 0
    · by_cases hx : o (m / q) = true
      · have e : ow_1 o q (f + 1) m = ow_1 o q f (m / q) := by simp only [ow_1, hd, hx, if_true]
        rw [e]
        have hle : q ≤ m := Nat.le_of_dvd h0 (Nat.dvd_of_mod_eq_zero hd)
        have hlt : m / q < 2 ^ f := by
          rw [Nat.div_lt_iff_lt_mul (by omega)]
          have : 2 ^ f * 2 ≤ 2 ^ f * q := Nat.mul_le_mul_left _ hq
          rw [Nat.pow_succ] at h1
          omega
        obtain ⟨q1, q2, q3, q4⟩ := ih (m / q) (Nat.div_pos hle (by omega)) hlt ((ho _).mp hx)
        exact ⟨q1, q2, Nat.dvd_trans q3 (Nat.div_dvd_of_dvd (Nat.dvd_of_mod_eq_zero hd)), q4⟩
      · have e : ow_1 o q (f + 1) m = m := by simp only [ow_1, hd, hx, if_true]; rfl
        rw [e]
        exact ⟨h0, hm, Nat.dvd_refl m, fun z => hx ((ho _).mpr z.2)⟩
    · have e : ow_1 o q (f + 1) m = m := by simp only [ow_1, hd, if_false]
      rw [e]
      exact ⟨h0, hm, Nat.dvd_refl m, fun z => hd (Nat.mod_eq_zero_of_dvd z.1)⟩
theorem ow_A_ok {p : Nat} {o : Nat → Bool} (ho : ∀ e, o e = true ↔ px_o p e) : ∀ (l : List Nat) (m : Nat), (∀ q ∈ l, 2 ≤ q) → 0 < m → m < 2 ^ 64 → px_o p m → 0 < ow_A o l m ∧ px_o p (ow_A o l m) ∧ ow_A o l m ∣ m ∧ ∀ q ∈ l, ¬ (q ∣ ow_A o l m ∧ px_o p (ow_A o l m / q)) := by
  intro l
  induction l with
  | nil => intro m _ h0 _ hm; exact ⟨h0, hm, Nat.dvd_refl m, fun q hq => absurd hq List.not_mem_nil⟩
  | cons a l ih =>
    intro m hl h0 h1 hm
    have ha : 2 ≤ a := hl a List.mem_cons_self
    obtain ⟨q1, q2, q3, q4⟩ := ow_1_ok ho ha 64 m h0 h1 hm
    have hle := Nat.le_of_dvd h0 q3
    obtain ⟨r1, r2, r3, r4⟩ := ih (ow_1 o a 64 m) (fun q hq => hl q (List.mem_cons_of_mem _ hq)) q1 (by omega) q2
    refine ⟨r1, r2, Nat.dvd_trans r3 q3, fun q hq => ?_⟩
    show ¬ (q ∣ ow_A o l (ow_1 o a 64 m) ∧ px_o p (ow_A o l (ow_1 o a 64 m) / q))
    rcases List.mem_cons.mp hq with e | e
    · subst e
      intro z
      refine q4 ⟨Nat.dvd_trans z.1 r3, px_o_dvd z.2 ?_⟩
      obtain ⟨k, ek⟩ := r3
      obtain ⟨j, ej⟩ := z.1
      have e1 : ow_A o l (ow_1 o q 64 m) / q = j := by rw [ej, Nat.mul_div_cancel_left _ (by omega)]
      have e2 : ow_1 o q 64 m = q * (j * k) := by rw [← Nat.mul_assoc, ← ej]; exact ek
      have e3 : ow_1 o q 64 m / q = j * k := by rw [e2, Nat.mul_div_cancel_left _ (by omega)]
      rw [e1, e3]
      exact ⟨k, rfl⟩
    · exact r4 q e
theorem ow_ord {p : Nat} {o : Nat → Bool} (ho : ∀ e, o e = true ↔ px_o p e) {l : List Nat} {m : Nat} (hl : ∀ q ∈ l, 2 ≤ q) (h0 : 0 < m) (h1 : m < 2 ^ 64) (hm : px_o p m) (hall : ∀ q, np q → q ∣ m → q ∈ l) : px_ord p (ow_A o l m) := by
  obtain ⟨r1, r2, r3, r4⟩ := ow_A_ok ho l m hl h0 h1 hm
  exact px_ord_crit r1 r2 (fun q hq hd hx => r4 q (hall q hq (Nat.dvd_trans hd r3)) ⟨hd, hx⟩)
/-! the other way: trial division up to the root -/
def td_1 (q : Nat) : Nat → Nat → Nat
  | 0, r => r
  | f + 1, r => if r % q = 0 then td_1 q f (r / q) else r
def td_A (o : Nat → Bool) (all : Nat) : Nat → Nat → Nat → Bool → Nat × Bool
  | 0, _, r, b => (r, b)
  | f + 1, q, r, b => if q * q ≤ all then td_A o all f (q + 1) (td_1 q 64 r) (if r % q = 0 then (b && !(o (all / q))) else b) else (r, b)
theorem td_1_ok {q : Nat} (hq : 2 ≤ q) : ∀ (f r : Nat), 0 < r → r < 2 ^ f → 0 < td_1 q f r ∧ td_1 q f r ∣ r ∧ ¬ q ∣ td_1 q f r ∧ ∀ t, np t → t ∣ r → t ∣ q ∨ t ∣ td_1 q f r := by
  intro f
  induction f with
  | zero => intro r h0 h1; simp at h1; omega
  | succ f ih =>
    intro r h0 h1
    by_cases hd : r % q = 0
    · have e : td_1 q (f + 1) r = td_1 q f (r / q) := by simp only [td_1, hd, if_true]
      rw [e]
      have hdv := Nat.dvd_of_mod_eq_zero hd
      have hle : q ≤ r := Nat.le_of_dvd h0 hdv
      have hlt : r / q < 2 ^ f := by
        rw [Nat.div_lt_iff_lt_mul (by omega)]
        have : 2 ^ f * 2 ≤ 2 ^ f * q := Nat.mul_le_mul_left _ hq
        rw [Nat.pow_succ] at h1
        omega
      obtain ⟨q1, q2, q3, q4⟩ := ih (r / q) (Nat.div_pos hle (by omega)) hlt
      refine ⟨q1, Nat.dvd_trans q2 (Nat.div_dvd_of_dvd hdv), q3, fun t ht htr => ?_⟩
      rw [← Nat.mul_div_cancel' hdv] at htr
      rcases np_euclid ht htr with h2 | h2
      · exact Or.inl h2
      · exact q4 t ht h2
    · have e : td_1 q (f + 1) r = r := by simp only [td_1, hd, if_false]
      rw [e]
      exact ⟨h0, Nat.dvd_refl r, fun z => hd (Nat.mod_eq_zero_of_dvd z), fun t _ h => Or.inr h⟩
/-- what holds at q: rest divides all; its primes are q or more; a prime of all that is q or more divides rest; b tells the primes below q -/
def td_I (o : Nat → Bool) (all q r : Nat) (b : Bool) : Prop :=
  0 < r ∧ r ∣ all ∧ (∀ t, np t → t ∣ r → q ≤ t) ∧ (∀ t, np t → t ∣ all → q ≤ t → t ∣ r) ∧ (b = true ↔ ∀ t, np t → t ∣ all → t < q → o (all / t) = false)
theorem td_turn {o : Nat → Bool} {all q r : Nat} {b : Bool} (hall : 0 < all) (hlt : all < 2 ^ 64) (hq : 2 ≤ q) (h : td_I o all q r b) : td_I o all (q + 1) (td_1 q 64 r) (if r % q = 0 then (b && !(o (all / q))) else b) := by
  obtain ⟨h1, h2, h3, h4, h5⟩ := h
  have hle := Nat.le_of_dvd hall h2
  obtain ⟨q1, q2, q3, q4⟩ := td_1_ok hq 64 r h1 (by omega)
  refine ⟨q1, Nat.dvd_trans q2 h2, fun t ht htr => ?_, fun t ht hta hle2 => ?_, ?_⟩
  · have := h3 t ht (Nat.dvd_trans htr q2)
    by_cases e : t = q
    · subst e; exact absurd htr q3
    · omega
  · rcases q4 t ht (h4 t ht hta (by omega)) with h6 | h6
    · have := Nat.le_of_dvd (by omega) h6
      omega
    · exact h6
  · by_cases hd : r % q = 0
    · have hdv := Nat.dvd_of_mod_eq_zero hd
      have hpq : np q := by
        obtain ⟨t, ht, htq⟩ := np_ex q hq
        have := h3 t ht (Nat.dvd_trans htq hdv)
        have := Nat.le_of_dvd (by omega) htq
        have : t = q := by omega
        rwa [← this]
      rw [if_pos hd, Bool.and_eq_true, h5]
      constructor
      · rintro ⟨a1, a2⟩ t ht hta hlt2
        by_cases e : t = q
        · subst e; simpa using a2
        · exact a1 t ht hta (by omega)
      · intro a
        refine ⟨fun t ht hta hlt2 => a t ht hta (by omega), ?_⟩
        have := a q hpq (Nat.dvd_trans hdv h2) (by omega)
        simp [this]
    · rw [if_neg hd, h5]
      constructor
      · intro a t ht hta hlt2
        by_cases e : t = q
        · subst e
          exact absurd (Nat.mod_eq_zero_of_dvd (h4 t ht hta (Nat.le_refl _))) hd
        · exact a t ht hta (by omega)
      · intro a t ht hta hlt2
        exact a t ht hta (by omega)
theorem td_A_ok {o : Nat → Bool} {all : Nat} (hall : 0 < all) (hlt : all < 2 ^ 64) : ∀ (f q r : Nat) (b : Bool), 2 ≤ q → all < (q + f) * (q + f) → td_I o all q r b → ∃ q', 2 ≤ q' ∧ all < q' * q' ∧ td_I o all q' (td_A o all f q r b).1 (td_A o all f q r b).2 := by
  intro f
  induction f with
  | zero => intro q r b hq hlt2 h; exact ⟨q, hq, hlt2, h⟩
  | succ f ih =>
    intro q r b hq hlt2 h
    by_cases hc : q * q ≤ all
    · have e : td_A o all (f + 1) q r b = td_A o all f (q + 1) (td_1 q 64 r) (if r % q = 0 then (b && !(o (all / q))) else b) := by simp only [td_A, hc, if_true]
      rw [e]
      exact ih (q + 1) _ _ (by omega) (by rw [show q + 1 + f = q + (f + 1) by omega]; exact hlt2) (td_turn hall hlt hq h)
    · have e : td_A o all (f + 1) q r b = (r, b) := by simp only [td_A, hc, if_false]
      rw [e]
      exact ⟨q, hq, by omega, h⟩
theorem td_end {o : Nat → Bool} {all q r : Nat} {b : Bool} (hall : 0 < all) (h : td_I o all q r b) (hq : all < q * q) : (b = true ∧ (r = 1 ∨ (r = all ∧ all = 1) ∨ o (all / r) = false)) ↔ ∀ t, np t → t ∣ all → o (all / t) = false := by
  obtain ⟨h1, h2, h3, h4, h5⟩ := h
  have hr1 : r = 1 ∨ np r := by
    by_cases e : r = 1
    · exact Or.inl e
    · right
      refine ⟨by omega, fun d hd => ?_⟩
      by_cases hd1 : d = 1
      · exact Or.inl hd1
      · right
        obtain ⟨k, ek⟩ := hd
        by_cases hk1 : k = 1
        · rw [ek, hk1, Nat.mul_one]
        · exfalso
          have hd0 : d ≠ 0 := fun z => by rw [z, Nat.zero_mul] at ek; omega
          have hk0 : k ≠ 0 := fun z => by rw [z, Nat.mul_zero] at ek; omega
          obtain ⟨t, ht, htd⟩ := np_ex d (by omega)
          obtain ⟨u, hu, huk⟩ := np_ex k (by omega)
          have a1 := h3 t ht (Nat.dvd_trans htd ⟨k, ek⟩)
          have a2 := h3 u hu (Nat.dvd_trans huk ⟨d, by rw [ek, Nat.mul_comm]⟩)
          have a3 := Nat.le_of_dvd (by omega) htd
          have a4 := Nat.le_of_dvd (by omega) huk
          have a5 := Nat.mul_le_mul (show q ≤ d by omega) (show q ≤ k by omega)
          have a6 := Nat.le_of_dvd hall h2
          omega
  constructor
  · rintro ⟨hb, hc⟩ t ht hta
    by_cases hlt : t < q
    · exact h5.mp hb t ht hta hlt
    · have htr := h4 t ht hta (by omega)
      have := ht.1
      have := Nat.le_of_dvd h1 htr
      rcases hr1 with e | e
      · omega
      · have et := np_eq ht e htr
        subst et
        rcases hc with c | c | c
        · omega
        · omega
        · exact c
  · intro a
    refine ⟨h5.mpr (fun t ht hta _ => a t ht hta), ?_⟩
    rcases hr1 with e | e
    · exact Or.inl e
    · exact Or.inr (Or.inr (a r e h2))
theorem td_prim {p : Nat} {o : Nat → Bool} (ho : ∀ e, o e = true ↔ px_o p e) {all : Nat} (hall : 0 < all) (hx : px_o p all) : (∀ t, np t → t ∣ all → o (all / t) = false) ↔ px_ord p all := by
  constructor
  · intro a
    refine px_ord_crit hall hx (fun q hq hd hc => ?_)
    have := a q hq hd
    rw [(ho _).mpr hc] at this
    cases this
  · intro h t ht hta
    have := px_ord_crit' h t ht hta
    cases hv : o (all / t)
    · rfl
    · exact absurd ((ho _).mp hv) this
theorem td_start {o : Nat → Bool} {all : Nat} (hall : 0 < all) : td_I o all 2 all true :=
  ⟨hall, Nat.dvd_refl all, fun _ ht _ => ht.1, fun _ _ h _ => h, ⟨fun _ t ht _ hlt => by have := ht.1; omega, fun _ => rfl⟩⟩
/-! the program's table -/
def pr_T : List Nat := [2, 3, 5, 7, 11, 13, 17, 19, 23, 29, 31, 41, 43, 47, 73, 89, 113, 127, 151, 233, 241, 257, 331, 337, 601, 683, 1103, 1801, 2089, 2731, 8191, 65537, 131071, 178481, 262657, 524287, 2147483647]
def pr_F : List (List Nat) := [[], [], [3], [7], [3, 5], [31], [3, 3, 7], [127], [3, 5, 17], [7, 73], [3, 11, 31], [23, 89], [3, 3, 5, 7, 13], [8191], [3, 43, 127], [7, 31, 151], [3, 5, 17, 257], [131071], [3, 3, 3, 7, 19, 73], [524287], [3, 5, 5, 11, 31, 41], [7, 7, 127, 337], [3, 23, 89, 683], [47, 178481], [3, 3, 5, 7, 13, 17, 241], [31, 601, 1801], [3, 2731, 8191], [7, 73, 262657], [3, 5, 29, 43, 113, 127], [233, 1103, 2089], [3, 3, 7, 11, 31, 151, 331], [2147483647], [3, 5, 17, 257, 65537]]
theorem pr_F_ok : ∀ n, n < 33 → 1 ≤ n → np_pr (pr_F.getD n []) = 2 ^ n - 1 := by decide +kernel
theorem pr_F_in : ∀ n, n < 33 → ∀ q ∈ pr_F.getD n [], q ∈ pr_T := by decide +kernel
theorem pr_T_2 : ∀ q ∈ pr_T, 2 ≤ q := by decide +kernel
theorem pr_p0 : np 2 := np_of (N := 1) (by decide) (by decide) (by decide) (by decide +kernel)
theorem pr_p1 : np 3 := np_of (N := 1) (by decide) (by decide) (by decide) (by decide +kernel)
theorem pr_p2 : np 5 := np_of (N := 2) (by decide) (by decide) (by decide) (by decide +kernel)
theorem pr_p3 : np 7 := np_of (N := 2) (by decide) (by decide) (by decide) (by decide +kernel)
theorem pr_p4 : np 11 := np_of (N := 3) (by decide) (by decide) (by decide) (by decide +kernel)
theorem pr_p5 : np 13 := np_of (N := 3) (by decide) (by decide) (by decide) (by decide +kernel)
theorem pr_p6 : np 17 := np_of (N := 4) (by decide) (by decide) (by decide) (by decide +kernel)
theorem pr_p7 : np 19 := np_of (N := 4) (by decide) (by decide) (by decide) (by decide +kernel)
theorem pr_p8 : np 23 := np_of (N := 4) (by decide) (by decide) (by decide) (by decide +kernel)
theorem pr_p9 : np 29 := np_of (N := 5) (by decide) (by decide) (by decide) (by decide +kernel)
theorem pr_p10 : np 31 := np_of (N := 5) (by decide) (by decide) (by decide) (by decide +kernel)
theorem pr_p11 : np 41 := np_of (N := 6) (by decide) (by decide) (by decide) (by decide +kernel)
theorem pr_p12 : np 43 := np_of (N := 6) (by decide) (by decide) (by decide) (by decide +kernel)
theorem pr_p13 : np 47 := np_of (N := 6) (by decide) (by decide) (by decide) (by decide +kernel)
theorem pr_p14 : np 73 := np_of (N := 8) (by decide) (by decide) (by decide) (by decide +kernel)
theorem pr_p15 : np 89 := np_of (N := 9) (by decide) (by decide) (by decide) (by decide +kernel)
theorem pr_p16 : np 113 := np_of (N := 10) (by decide) (by decide) (by decide) (by decide +kernel)
theorem pr_p17 : np 127 := np_of (N := 11) (by decide) (by decide) (by decide) (by decide +kernel)
theorem pr_p18 : np 151 := np_of (N := 12) (by decide) (by decide) (by decide) (by decide +kernel)
theorem pr_p19 : np 233 := np_of (N := 15) (by decide) (by decide) (by decide) (by decide +kernel)
theorem pr_p20 : np 241 := np_of (N := 15) (by decide) (by decide) (by decide) (by decide +kernel)
theorem pr_p21 : np 257 := np_of (N := 16) (by decide) (by decide) (by decide) (by decide +kernel)
theorem pr_p22 : np 331 := np_of (N := 18) (by decide) (by decide) (by decide) (by decide +kernel)
theorem pr_p23 : np 337 := np_of (N := 18) (by decide) (by decide) (by decide) (by decide +kernel)
theorem pr_p24 : np 601 := np_of (N := 24) (by decide) (by decide) (by decide) (by decide +kernel)
theorem pr_p25 : np 683 := np_of (N := 26) (by decide) (by decide) (by decide) (by decide +kernel)
theorem pr_p26 : np 1103 := np_of (N := 33) (by decide) (by decide) (by decide) (by decide +kernel)
theorem pr_p27 : np 1801 := np_of (N := 42) (by decide) (by decide) (by decide) (by decide +kernel)
theorem pr_p28 : np 2089 := np_of (N := 45) (by decide) (by decide) (by decide) (by decide +kernel)
theorem pr_p29 : np 2731 := np_of (N := 52) (by decide) (by decide) (by decide) (by decide +kernel)
theorem pr_p30 : np 8191 := np_of (N := 90) (by decide) (by decide) (by decide) (by decide +kernel)
theorem pr_p31 : np 65537 := np_of (N := 256) (by decide) (by decide) (by decide) (by decide +kernel)
theorem pr_p32 : np 131071 := np_of (N := 362) (by decide) (by decide) (by decide) (by decide +kernel)
theorem pr_p33 : np 178481 := np_of (N := 422) (by decide) (by decide) (by decide) (by decide +kernel)
theorem pr_p34 : np 262657 := np_of (N := 512) (by decide) (by decide) (by decide) (by decide +kernel)
theorem pr_p35 : np 524287 := np_of (N := 724) (by decide) (by decide) (by decide) (by decide +kernel)
theorem pr_p36 : np 2147483647 := np_of (N := 46340) (by decide) (by decide) (by decide) (by decide +kernel)
theorem pr_T_np : ∀ q ∈ pr_T, np q := List.forall_mem_cons.mpr ⟨pr_p0, List.forall_mem_cons.mpr ⟨pr_p1, List.forall_mem_cons.mpr ⟨pr_p2, List.forall_mem_cons.mpr ⟨pr_p3, List.forall_mem_cons.mpr ⟨pr_p4, List.forall_mem_cons.mpr ⟨pr_p5, List.forall_mem_cons.mpr ⟨pr_p6, List.forall_mem_cons.mpr ⟨pr_p7, List.forall_mem_cons.mpr ⟨pr_p8, List.forall_mem_cons.mpr ⟨pr_p9, List.forall_mem_cons.mpr ⟨pr_p10, List.forall_mem_cons.mpr ⟨pr_p11, List.forall_mem_cons.mpr ⟨pr_p12, List.forall_mem_cons.mpr ⟨pr_p13, List.forall_mem_cons.mpr ⟨pr_p14, List.forall_mem_cons.mpr ⟨pr_p15, List.forall_mem_cons.mpr ⟨pr_p16, List.forall_mem_cons.mpr ⟨pr_p17, List.forall_mem_cons.mpr ⟨pr_p18, List.forall_mem_cons.mpr ⟨pr_p19, List.forall_mem_cons.mpr ⟨pr_p20, List.forall_mem_cons.mpr ⟨pr_p21, List.forall_mem_cons.mpr ⟨pr_p22, List.forall_mem_cons.mpr ⟨pr_p23, List.forall_mem_cons.mpr ⟨pr_p24, List.forall_mem_cons.mpr ⟨pr_p25, List.forall_mem_cons.mpr ⟨pr_p26, List.forall_mem_cons.mpr ⟨pr_p27, List.forall_mem_cons.mpr ⟨pr_p28, List.forall_mem_cons.mpr ⟨pr_p29, List.forall_mem_cons.mpr ⟨pr_p30, List.forall_mem_cons.mpr ⟨pr_p31, List.forall_mem_cons.mpr ⟨pr_p32, List.forall_mem_cons.mpr ⟨pr_p33, List.forall_mem_cons.mpr ⟨pr_p34, List.forall_mem_cons.mpr ⟨pr_p35, List.forall_mem_cons.mpr ⟨pr_p36, fun _ h => absurd h List.not_mem_nil⟩⟩⟩⟩⟩⟩⟩⟩⟩⟩⟩⟩⟩⟩⟩⟩⟩⟩⟩⟩⟩⟩⟩⟩⟩⟩⟩⟩⟩⟩⟩⟩⟩⟩⟩⟩⟩
theorem pr_all {n : Nat} (h1 : 1 ≤ n) (h2 : n ≤ 32) {q : Nat} (hq : np q) (hd : q ∣ 2 ^ n - 1) : q ∈ pr_T := by
  rw [← pr_F_ok n (by omega) h1] at hd
  obtain ⟨a, ha, hqa⟩ := np_list hq _ hd
  have h3 := pr_F_in n (by omega) a ha
  rw [np_eq hq (pr_T_np a h3) hqa]
  exact h3
