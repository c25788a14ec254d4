/-! whether x^e leaves 1, as a truth value; the table of primes in the heap -/
noncomputable def oo (p e : Nat) : Bool := decide (px_r p (2 ^ e) = 1)
theorem oo_iff {p n : Nat} (h : md p n) (e : Nat) : oo p e = true ↔ px_o p e := by
  unfold oo
  rw [decide_eq_true_iff, xp_o h]
theorem ow_1_pos {o : Nat → Bool} {q : Nat} (hq : 2 ≤ q) : ∀ (f m : Nat), 0 < m → 0 < ow_1 o q f m ∧ ow_1 o q f m ≤ m := by
  intro f
  induction f with
  | zero => intro m h; exact ⟨h, Nat.le_refl m⟩
  | succ f ih =>
    intro m h
    show 0 < (if m % q = 0 then (if o (m / q) = true then ow_1 o q f (m / q) else m) else m) ∧ (if m % q = 0 then (if o (m / q) = true then ow_1 o q f (m / q) else m) else m) ≤ m
    split
    · rename_i hd
      split
      · have hle := Nat.le_of_dvd h (Nat.dvd_of_mod_eq_zero hd)
        obtain ⟨h1, h2⟩ := ih (m / q) (Nat.div_pos hle (by omega))
        have := Nat.div_le_self m q
        exact ⟨h1, by omega⟩
      · exact ⟨h, Nat.le_refl m⟩
    · exact ⟨h, Nat.le_refl m⟩
theorem ow_A_app (o : Nat → Bool) : ∀ (l1 l2 : List Nat) (m : Nat), ow_A o (l1 ++ l2) m = ow_A o l2 (ow_A o l1 m)
  | [], _, _ => rfl
  | q :: l1, l2, m => ow_A_app o l1 l2 (ow_1 o q 64 m)
theorem pr_T_lt : ∀ q ∈ pr_T, q < 2 ^ 63 := by decide +kernel
theorem pr_T_len : pr_T.length = 37 := by decide
def pr_v (j : Nat) : Value := .long (lN (pr_T.getD j 0))
def pr_ok (H : Heap) (U : State) : Prop := ∃ t : Nat, va_Z "ShiftSignatures$Modulus" "PRIMES" "[J" (.ref t) (fun _ => False) U H ∧ va_T .long t 37 pr_v (fun _ => False) U H
theorem pr_ok.moved {H : Heap} {u U : State} (h : pr_ok H u) (hvm : u.vm.Alike U.vm) : pr_ok H U := by
  obtain ⟨t, h1, h2⟩ := h
  exact ⟨t, va_Z.moved hvm h1, va_T.moved hvm h2⟩
theorem ow_drop {o : Nat → Bool} {j : Nat} (hj : j < pr_T.length) (m : Nat) : ow_A o (pr_T.drop j) m = ow_A o (pr_T.drop (j + 1)) (ow_1 o (pr_T.getD j 0) 64 m) := by
  rw [List.drop_eq_getElem_cons hj, List.getD_eq_getElem?_getD, List.getElem?_eq_getElem hj]
  rfl
theorem pr_get {j : Nat} (hj : j < 37) : pr_T.getD j 0 ∈ pr_T := by
  have h : j < pr_T.length := by rw [pr_T_len]; exact hj
  rw [List.getD_eq_getElem?_getD, List.getElem?_eq_getElem h]
  exact List.getElem_mem h
/-! worlds that are only read, and the table of primes -/
def wq_P (D : va_G) (cl : List vw_C) (ws : va_W) (tys : List (ClassId × FieldType)) (U : State) : Prop := wq_R D cl ws tys U ∧ pr_ok U.heap U
theorem wq_blP {D : va_G} {cl : List vw_C} {ws : va_W} {tys : List (ClassId × FieldType)} {av : List Value} : FrameBlind (va_Pc av (wq_P D cl ws tys)) := fun a U g mk q => by
  obtain ⟨q0, q1, q2⟩ := q
  exact ⟨q0, (wq_blR (av := av) a U g mk ⟨q0, q1⟩).2, q2.moved (u := U) (U := U.calling g mk a) (Vm.Alike.refl U.vm)⟩
theorem wq_preVP {s : State} {H : Heap} {D : va_G} {cl : List vw_C} {ws wc : va_W} {tys : List (ClassId × FieldType)} {C : String} {b : Nat} {As : List Value} (hP : va_P D cl ws H) (hK : va_K D cl tys s) (hN : nw_ok s) (hR : pr_ok H s) (is : List Nat) (hC : is.map (fun i => ws[i]?) = wc.map some) {q0 ci : Nat} {q : vw_C} {fs : List Value} (hc : cl[ci]? = some q) (he : ws[q0]? = some (b, .inr (ci, fs))) (hn : q.1 = C) : PreV s H C b (va_Pc (.ref b :: As) (wq_P D cl wc tys)) As := by
  have h := wq_preVR (As := As) hP hK hN is hC hc he hn
  refine ⟨wq_blP, h.2.1, fun U hU hW => ?_⟩
  obtain ⟨h1, h2⟩ := h.2.2 U hU hW
  exact ⟨h1, h2, by rw [hU]; exact hR.moved hW.alike⟩
