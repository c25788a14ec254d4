/-! common divisors, irreducible ones, and what they divide -/
def px_G (g a b : Nat) : Prop := px_dv g a ∧ px_dv g b ∧ ∃ u v, g = px_m u a ^^^ px_m v b
theorem px_G_ex : ∀ b a : Nat, ∃ g, px_G g a b := by
  intro b
  induction b using Nat.strongRecOn with
  | _ b ih =>
    intro a
    by_cases hb : b = 0
    · subst hb
      exact ⟨a, px_dv_refl a, px_dv_zero a, 1, 0, by rw [px_m_one_left, px_m_zero, Nat.xor_zero]⟩
    · obtain ⟨q, r, e, hr⟩ := px_div (px_lg1 hb) (px_lg2 b) a
      obtain ⟨g, h1, h2, u, v, hg⟩ := ih r (Nat.lt_of_lt_of_le hr (px_lg1 hb)) b
      refine ⟨g, ?_, h1, v, u ^^^ px_m v q, ?_⟩
      · rw [e]; exact px_dv_xor (px_dv_mr h1 q) h2
      · have er : r = a ^^^ px_m q b := by
          rw [e, Nat.xor_comm (px_m q b) r, px_cc]
        rw [hg, er, px_m_xor_right, px_m_xor_left, ← px_m_assoc]
        ac_rfl
theorem px_G_dv {g a b d : Nat} (h : px_G g a b) (h1 : px_dv d a) (h2 : px_dv d b) : px_dv d g := by
  obtain ⟨-, -, u, v, e⟩ := h
  rw [e]
  exact px_dv_xor (px_dv_mr h1 u) (px_dv_mr h2 v)
theorem px_G_self (a : Nat) : px_G a a 0 := ⟨px_dv_refl a, px_dv_zero a, 1, 0, by rw [px_m_one_left, px_m_zero, Nat.xor_zero]⟩
/-- one turn of Euclid -/
theorem px_G_turn {g a b q r : Nat} (e : a = px_m q b ^^^ r) (h : px_G g b r) : px_G g a b := by
  obtain ⟨h1, h2, u, v, hg⟩ := h
  refine ⟨?_, h1, v, u ^^^ px_m v q, ?_⟩
  · rw [e]; exact px_dv_xor (px_dv_mr h1 q) h2
  · have er : r = a ^^^ px_m q b := by
      rw [e, Nat.xor_comm (px_m q b) r, px_cc]
    rw [hg, er, px_m_xor_right, px_m_xor_left, ← px_m_assoc]
    ac_rfl
def px_ir (f : Nat) : Prop := 2 ≤ f ∧ ∀ a b, f = px_m a b → a = 1 ∨ b = 1
theorem px_ir_ne {f : Nat} (h : px_ir f) : f ≠ 0 := by have := h.1; omega
theorem px_ir_dv {f g : Nat} (h : px_ir f) (hg : px_dv g f) : g = 1 ∨ g = f := by
  obtain ⟨q, e⟩ := hg
  rcases h.2 _ _ e with h1 | h1
  · exact Or.inl h1
  · right; rw [e, h1, px_m_one]
theorem px_euclid {f a b : Nat} (h : px_ir f) (hd : px_dv f (px_m a b)) : px_dv f a ∨ px_dv f b := by
  obtain ⟨g, h1, h2, u, v, hg⟩ := px_G_ex a f
  rcases px_ir_dv h h1 with e | e
  · right
    have e2 : b = px_m (px_m u f) b ^^^ px_m (px_m v a) b := by
      rw [← px_m_xor_left, ← hg, e, px_m_one_left]
    rw [e2]
    refine px_dv_xor (px_dv_ml (px_dv_m' f u) b) ?_
    rw [px_m_assoc]
    exact px_dv_mr hd v
  · left; rw [← e]; exact h2
theorem px_lt_of_log {a b : Nat} (hb : b ≠ 0) (h : a.log2 < b.log2) : a < b := by
  have h1 := px_lg2 a
  have h2 := px_lg1 hb
  have h3 : 2 ^ (a.log2 + 1) ≤ 2 ^ b.log2 := Nat.pow_le_pow_right (by decide) h
  omega
theorem px_log_pos {a : Nat} (h : 2 ≤ a) : 1 ≤ a.log2 := (Nat.le_log2 (by omega)).2 (by simpa using h)
theorem px_two_le {a : Nat} (h : a ≠ 0) (h1 : a ≠ 1) : 2 ≤ a := by omega
/-- a product of two that are no 1: both of lesser degrees -/
theorem px_fac_lt {a b : Nat} (h : px_m a b ≠ 0) (ha : a ≠ 1) (hb : b ≠ 1) : a.log2 < (px_m a b).log2 ∧ b.log2 < (px_m a b).log2 ∧ 2 ≤ a ∧ 2 ≤ b := by
  have ha0 : a ≠ 0 := fun e => h (by rw [e, px_m_zero_left])
  have hb0 : b ≠ 0 := fun e => h (by rw [e, px_m_zero])
  have h1 := px_log ha0 hb0
  have h2 := px_log_pos (px_two_le ha0 ha)
  have h3 := px_log_pos (px_two_le hb0 hb)
  exact ⟨by omega, by omega, px_two_le ha0 ha, px_two_le hb0 hb⟩
theorem px_ir_ex : ∀ a : Nat, 2 ≤ a → ∃ f, px_ir f ∧ px_dv f a := by
  intro a
  induction a using Nat.strongRecOn with
  | _ a ih =>
    intro ha
    by_cases hi : px_ir a
    · exact ⟨a, hi, px_dv_refl a⟩
    · have : ∃ b c, a = px_m b c ∧ b ≠ 1 ∧ c ≠ 1 := by
        apply Classical.byContradiction
        intro hn
        apply hi
        refine ⟨ha, fun b c e => ?_⟩
        by_cases h1 : b = 1
        · exact Or.inl h1
        · by_cases h2 : c = 1
          · exact Or.inr h2
          · exact absurd ⟨b, c, e, h1, h2⟩ hn
      obtain ⟨b, c, e, h1, h2⟩ := this
      obtain ⟨q1, -, q3, -⟩ := px_fac_lt (a := b) (b := c) (by omega) h1 h2
      rw [← e] at q1
      obtain ⟨f, hf, hd⟩ := ih b (px_lt_of_log (by omega) q1) q3
      exact ⟨f, hf, px_dv_trans hd ⟨c, e⟩⟩
/-- if all irreducible divisors of p divide g, p divides a power of g -/
theorem px_rad : ∀ (n p g : Nat), p ≠ 0 → p.log2 ≤ n → (∀ f, px_ir f → px_dv f p → px_dv f g) → px_dv p (px_pw g n) := by
  intro n
  induction n with
  | zero =>
    intro p g hp hn hall
    have h := px_lg2 p
    rw [show p.log2 = 0 by omega] at h
    rw [show p = 1 by simp at h; omega]
    exact px_dv_one _
  | succ n ih =>
    intro p g hp hn hall
    by_cases h1 : p = 1
    · rw [h1]; exact px_dv_one _
    · obtain ⟨f, hf, q, e⟩ := px_ir_ex p (px_two_le hp h1)
      have hq : q ≠ 0 := fun e2 => hp (by rw [e, e2, px_m_zero])
      have hl := px_log (px_ir_ne hf) hq
      rw [← e] at hl
      have := px_log_pos hf.1
      have hq2 := ih q g hq (by omega) (fun f' hf' hd => hall f' hf' (px_dv_trans hd ⟨f, by rw [e, px_m_comm]⟩))
      obtain ⟨u, eu⟩ := hq2
      obtain ⟨v, ev⟩ := hall f hf ⟨q, e⟩
      refine ⟨px_m u v, ?_⟩
      show px_m (px_pw g n) g = _
      rw [eu, e]
      conv => lhs; rw [ev]
      rw [px_m_assoc, px_m_assoc, px_m_left_comm f q, px_m_left_comm f u]
/-! the product of all residues but 0: x^(2^d - 1) leaves 1 -/
def px_pd : List Nat → Nat
  | [] => 1
  | a :: l => px_m a (px_pd l)
theorem px_pd_perm {l1 l2 : List Nat} (h : l1.Perm l2) : px_pd l1 = px_pd l2 := by
  induction h with
  | nil => rfl
  | cons a _ ih => show px_m a _ = px_m a _; rw [ih]
  | swap a b l => show px_m b (px_m a (px_pd l)) = px_m a (px_m b (px_pd l)); exact px_m_left_comm _ _ _
  | trans _ _ ih1 ih2 => exact ih1.trans ih2
theorem px_perm_of : ∀ (l1 l2 : List Nat), l1.Nodup → (∀ a ∈ l1, a ∈ l2) → l2.length ≤ l1.length → l1.Perm l2 := by
  intro l1
  induction l1 with
  | nil =>
    intro l2 _ _ h
    have e : l2 = [] := List.eq_nil_of_length_eq_zero (Nat.le_zero.mp h)
    subst e
    exact List.Perm.refl _
  | cons a t ih =>
    intro l2 hn hs hl
    obtain ⟨ha, ht⟩ := List.nodup_cons.mp hn
    have hm : a ∈ l2 := hs a List.mem_cons_self
    have h2 := List.length_erase_of_mem hm
    refine ((ih (l2.erase a) ht (fun b hb => ?_) ?_).cons a).trans (List.perm_cons_erase hm).symm
    · exact (List.mem_erase_of_ne (fun e : b = a => ha (by rw [← e]; exact hb))).mpr (hs b (List.mem_cons_of_mem _ hb))
    · simp only [List.length_cons] at hl
      omega
def px_st (f d r : Nat) : Nat := if 2 * r < 2 ^ d then 2 * r else 2 * r ^^^ f
theorem px_st_lt {f d r : Nat} (hf : 2 ^ d ≤ f) (hf' : f < 2 ^ (d + 1)) (hr : r < 2 ^ d) : px_st f d r < 2 ^ d := by
  unfold px_st
  split
  · assumption
  · exact px_tops (by omega) (by rw [Nat.pow_succ]; omega) hf hf'
theorem px_st_cg (f d r : Nat) : px_cg f (px_st f d r) (px_m 2 r) := by
  rw [px_m_comm, px_m_two]
  unfold px_st
  split
  · exact px_cg_refl _ _
  · unfold px_cg
    rw [Nat.xor_comm (2 * r) f, px_cc]
    exact px_dv_refl f
theorem px_pd_st (f d : Nat) : ∀ l : List Nat, px_cg f (px_pd (l.map (px_st f d))) (px_m (px_pw 2 l.length) (px_pd l)) := by
  intro l
  induction l with
  | nil => exact px_cg_of (px_m_one 1).symm
  | cons a t ih =>
    show px_cg f (px_m (px_st f d a) (px_pd (t.map (px_st f d)))) (px_m (px_m (px_pw 2 t.length) 2) (px_m a (px_pd t)))
    refine px_cg_trans (px_cg_m (px_st_cg f d a) ih) (px_cg_of ?_)
    rw [px_m_assoc, px_m_assoc, px_m_left_comm a (px_pw 2 t.length), px_m_left_comm 2 (px_pw 2 t.length)]
theorem px_pd_dv {f : Nat} (hf : px_ir f) : ∀ l : List Nat, (∀ a ∈ l, ¬ px_dv f a) → ¬ px_dv f (px_pd l) := by
  intro l
  induction l with
  | nil => intro _ h; have := px_dv_unit h; have := hf.1; omega
  | cons a t ih =>
    intro hl h
    rcases px_euclid hf h with h1 | h1
    · exact hl a List.mem_cons_self h1
    · exact ih (fun b hb => hl b (List.mem_cons_of_mem _ hb)) h1
theorem px_odd_dv2 {f : Nat} (hf : 2 ≤ f) (ho : f % 2 = 1) : ¬ px_dv f 2 := by
  rintro ⟨q, e⟩
  by_cases hq : q = 0
  · rw [hq, px_m_zero] at e; omega
  · have hl := px_log (a := f) (b := q) (by omega) hq
    rw [← e] at hl
    have h1 := px_log_pos hf
    have h2 : Nat.log2 2 = 1 := px_lg (i := 1) (by decide) (by decide)
    have hq0 : q.log2 = 0 := by omega
    have := px_lg2 q
    rw [hq0] at this
    have : q = 1 := by simp at this; omega
    rw [this, px_m_one] at e
    omega
theorem px_fermat {f d : Nat} (hf : px_ir f) (ho : f % 2 = 1) (h1 : 2 ^ d ≤ f) (h2 : f < 2 ^ (d + 1)) : px_dv f (2 ^ (2 ^ d - 1) ^^^ 1) := by
  have hS : ∀ a ∈ List.range' 1 (2 ^ d - 1), ¬ px_dv f a := by
    intro a ha hd
    rw [List.mem_range'_1] at ha
    have := px_dv_small hd (j := d) (by omega) h1
    omega
  have hlen : (List.range' 1 (2 ^ d - 1)).length = 2 ^ d - 1 := List.length_range'
  have hnd : ((List.range' 1 (2 ^ d - 1)).map (px_st f d)).Nodup := by
    unfold List.Nodup
    rw [List.pairwise_map]
    refine List.Pairwise.imp_of_mem ?_ (List.nodup_range' (s := 1) (n := 2 ^ d - 1))
    intro a b ha hb hab e
    rw [List.mem_range'_1] at ha hb
    apply hab
    have hc : px_cg f (px_m 2 a) (px_m 2 b) := by
      refine px_cg_trans (px_cg_symm (px_st_cg f d a)) ?_
      rw [e]
      exact px_st_cg f d b
    unfold px_cg at hc
    rw [← px_m_xor_right] at hc
    rcases px_euclid hf hc with h3 | h3
    · exact absurd h3 (px_odd_dv2 hf.1 ho)
    · exact px_uniq h1 (by omega) (by omega) h3
  have hsub : ∀ a ∈ (List.range' 1 (2 ^ d - 1)).map (px_st f d), a ∈ List.range' 1 (2 ^ d - 1) := by
    intro a ha
    obtain ⟨r, hr, rfl⟩ := List.mem_map.mp ha
    have hr' := hr
    rw [List.mem_range'_1] at hr ⊢
    have hlt := px_st_lt h1 h2 (r := r) (by omega)
    have hne : px_st f d r ≠ 0 := by
      intro e
      have hc := px_st_cg f d r
      rw [e] at hc
      unfold px_cg at hc
      rw [Nat.zero_xor] at hc
      rcases px_euclid hf hc with h3 | h3
      · exact px_odd_dv2 hf.1 ho h3
      · exact hS r hr' h3
    omega
  have hperm := px_perm_of _ _ hnd hsub (by rw [List.length_map]; exact Nat.le_refl _)
  have hc := px_pd_st f d (List.range' 1 (2 ^ d - 1))
  rw [px_pd_perm hperm, hlen, px_pw_two] at hc
  unfold px_cg at hc
  have e : px_pd (List.range' 1 (2 ^ d - 1)) ^^^ px_m (2 ^ (2 ^ d - 1)) (px_pd (List.range' 1 (2 ^ d - 1))) = px_m (2 ^ (2 ^ d - 1) ^^^ 1) (px_pd (List.range' 1 (2 ^ d - 1))) := by
    rw [px_m_xor_left, px_m_one_left, Nat.xor_comm]
  rw [e] at hc
  rcases px_euclid hf hc with h3 | h3
  · exact h3
  · exact absurd h3 (px_pd_dv hf _ hS)
theorem px_fermat2 {f d : Nat} (hf : px_ir f) (ho : f % 2 = 1) (h1 : 2 ^ d ≤ f) (h2 : f < 2 ^ (d + 1)) : px_dv f (2 ^ 2 ^ d ^^^ 2) := by
  have h := px_dv_ml (px_fermat hf ho h1 h2) 2
  rw [px_m_xor_left, px_m_one_left, px_m_two] at h
  have e : 2 * 2 ^ (2 ^ d - 1) = 2 ^ 2 ^ d := by
    have := Nat.two_pow_pos d
    rw [Nat.mul_comm, ← Nat.pow_succ, show Nat.succ (2 ^ d - 1) = 2 ^ d by omega]
  rwa [e] at h
/-! roots: a polynomial of degree D has no more than D roots among the residues modulo an irreducible one -/
def px_ev : List Nat → Nat → Nat
  | [], _ => 1
  | c :: l, y => px_m y (px_ev l y) ^^^ c
def px_qu (a : Nat) : List Nat → List Nat
  | [] => []
  | [_] => []
  | _ :: c :: l => px_ev (c :: l) a :: px_qu a (c :: l)
theorem px_qu_len (a : Nat) : ∀ l : List Nat, (px_qu a l).length = l.length - 1
  | [] => rfl
  | [_] => rfl
  | _ :: c :: l => by
    show (px_qu a (c :: l)).length + 1 = _
    rw [px_qu_len a (c :: l)]
    simp
theorem px_qu_ok (a y : Nat) : ∀ (l : List Nat), l ≠ [] → px_ev l y ^^^ px_ev l a = px_m (y ^^^ a) (px_ev (px_qu a l) y)
  | [], h => absurd rfl h
  | [c], _ => by
    show px_m y 1 ^^^ c ^^^ (px_m a 1 ^^^ c) = px_m (y ^^^ a) 1
    rw [px_m_one, px_m_one, px_m_one, show y ^^^ c ^^^ (a ^^^ c) = y ^^^ a ^^^ c ^^^ c by ac_rfl, px_cc]
  | c :: d :: l, _ => by
    have ih := px_qu_ok a y (d :: l) (by simp)
    show px_m y (px_ev (d :: l) y) ^^^ c ^^^ (px_m a (px_ev (d :: l) a) ^^^ c) = px_m (y ^^^ a) (px_m y (px_ev (px_qu a (d :: l)) y) ^^^ px_ev (d :: l) a)
    generalize px_ev (d :: l) y = Ey at *
    generalize px_ev (d :: l) a = Ea at *
    rw [px_m_xor_right, px_m_left_comm, ← ih, px_m_xor_right, px_m_xor_left]
    rw [show px_m y Ey ^^^ c ^^^ (px_m a Ea ^^^ c) = px_m y Ey ^^^ px_m a Ea ^^^ c ^^^ c by ac_rfl, px_cc]
    rw [show px_m y Ey ^^^ px_m y Ea ^^^ (px_m y Ea ^^^ px_m a Ea) = px_m y Ey ^^^ px_m a Ea ^^^ px_m y Ea ^^^ px_m y Ea by ac_rfl, px_cc]
theorem px_roots {p n : Nat} (hp : px_ir p) (hn : 2 ^ n ≤ p) : ∀ (k : Nat) (l R : List Nat), l.length = k → R.Nodup → (∀ a ∈ R, a < 2 ^ n ∧ px_dv p (px_ev l a)) → R.length ≤ k := by
  intro k
  induction k with
  | zero =>
    intro l R hl hR h
    rw [List.eq_nil_of_length_eq_zero hl] at h
    cases R with
    | nil => exact Nat.le_refl _
    | cons a R =>
      have := px_dv_unit (h a List.mem_cons_self).2
      have := hp.1
      omega
  | succ k ih =>
    intro l R hl hR h
    cases R with
    | nil => exact Nat.zero_le _
    | cons a R =>
      obtain ⟨ha, hR'⟩ := List.nodup_cons.mp hR
      have h0 := h a List.mem_cons_self
      have := ih (px_qu a l) R (by rw [px_qu_len, hl]; rfl) hR' (fun b hb => by
        have hb' := h b (List.mem_cons_of_mem _ hb)
        refine ⟨hb'.1, ?_⟩
        have hd := px_dv_xor hb'.2 h0.2
        rw [px_qu_ok a b l (fun e => by rw [e] at hl; cases hl)] at hd
        rcases px_euclid hp hd with h1 | h1
        · exact absurd (px_uniq hn hb'.1 h0.1 h1) (fun e => ha (e ▸ hb))
        · exact h1)
      simp only [List.length_cons]
      omega
theorem px_ev_zeros (y : Nat) : ∀ k, px_ev (List.replicate k 0) y = px_pw y k
  | 0 => rfl
  | k + 1 => by
    show px_m y (px_ev (List.replicate k 0) y) ^^^ 0 = px_m (px_pw y k) y
    rw [px_ev_zeros y k, Nat.xor_zero, px_m_comm]
/-- for every residue y: y^(2^d) leaves y, if x^(2^d) leaves x -/
theorem px_all {p d : Nat} (h : px_cg p (2 ^ 2 ^ d) 2) : ∀ y : Nat, px_cg p (px_pw y (2 ^ d)) y := by
  intro y
  induction y using px_bin with
  | h0 =>
    have hz : ∀ k, px_pw 0 (k + 1) = 0 := fun k => by show px_m (px_pw 0 k) 0 = 0; exact px_m_zero _
    have := Nat.two_pow_pos d
    rw [show 2 ^ d = 2 ^ d - 1 + 1 by omega, hz]
    exact px_cg_refl p 0
  | h y ih =>
    rw [← px_m_two, px_pw_mm, px_pw_two]
    exact px_cg_m ih h
  | h1 y ih =>
    rw [← px_d1, px_frob, px_pw_one_left, ← px_m_two, px_pw_mm, px_pw_two]
    exact px_cg_xor (px_cg_m ih h) (px_cg_refl p 1)
theorem px_big {p n d : Nat} (hp : px_ir p) (hn : 2 ^ n ≤ p) (hd : 1 ≤ d) (h : px_dv p (2 ^ 2 ^ d ^^^ 2)) : n ≤ d := by
  have h2 : 2 ^ 1 ≤ 2 ^ d := Nat.pow_le_pow_right (by decide) hd
  have hlen : (0 :: 1 :: List.replicate (2 ^ d - 2) 0).length = 2 ^ d := by
    simp only [List.length_cons, List.length_replicate]
    omega
  have hr := px_roots hp hn (2 ^ d) (0 :: 1 :: List.replicate (2 ^ d - 2) 0) (List.range (2 ^ n)) hlen List.nodup_range (fun a ha => by
    refine ⟨List.mem_range.mp ha, ?_⟩
    show px_dv p (px_m a (px_m a (px_ev (List.replicate (2 ^ d - 2) 0) a) ^^^ 1) ^^^ 0)
    rw [Nat.xor_zero, px_m_xor_right, px_m_one, px_ev_zeros]
    have e : px_m a (px_m a (px_pw a (2 ^ d - 2))) = px_pw a (2 ^ d) := by
      rw [show px_pw a (2 ^ d) = px_pw a (2 ^ d - 2 + 1 + 1) by rw [show 2 ^ d - 2 + 1 + 1 = 2 ^ d by omega]]
      show _ = px_m (px_m (px_pw a (2 ^ d - 2)) a) a
      rw [px_m_comm (px_pw a (2 ^ d - 2)) a, px_m_comm _ a]
    rw [e]
    exact px_all h a)
  rw [List.length_range] at hr
  exact (Nat.pow_le_pow_iff_right (by decide)).mp hr
