/-! contracts of the model: irreducible, order; laid by a program -/
theorem md_2 {p n : Nat} (h : md p n) : 2 ≤ p := by
  have h1 : 2 ^ 1 ≤ 2 ^ n := Nat.pow_le_pow_right (by decide) h.1
  have := h.2.2.1
  omega
theorem p2_even {k : Nat} (h : 1 ≤ k) : 2 ^ k % 2 = 0 := by
  obtain ⟨j, rfl⟩ : ∃ j, k = j + 1 := ⟨k - 1, by omega⟩
  rw [Nat.pow_succ]
  omega
/-- no odd polynomial of a degree below k, or of degree k and below b, divides p -/
def nd_p (p k b : Nat) : Prop := ∀ k' b', 1 ≤ k' → 2 ^ k' ≤ b' → b' < 2 ^ (k' + 1) → b' % 2 = 1 → (k' < k ∨ (k' = k ∧ b' < b)) → ¬ px_dv b' p
theorem nd_up {p k b : Nat} (h : nd_p p k b) (hb : 2 * 2 ^ k < b) : nd_p p (k + 1) 0 := fun k' b' h1 h2 h3 h4 h5 => by
  refine h k' b' h1 h2 h3 h4 ?_
  rcases h5 with h5 | h5
  · by_cases e : k' = k
    · subst e
      rw [Nat.pow_succ] at h3
      exact Or.inr ⟨rfl, by omega⟩
    · exact Or.inl (by omega)
  · omega
theorem nd_s {p k : Nat} (h : nd_p p k 0) : nd_p p k (2 ^ k + 1) := fun k' b' h1 h2 h3 h4 h5 => by
  rcases h5 with h5 | ⟨e, h5⟩
  · exact h k' b' h1 h2 h3 h4 (Or.inl h5)
  · subst e
    have := p2_even h1
    omega
theorem nd_b {p k b : Nat} (h : nd_p p k b) (hb : b % 2 = 1) (hn : ¬ px_dv b p) : nd_p p k (b + 2) := fun k' b' h1 h2 h3 h4 h5 => by
  rcases h5 with h5 | ⟨e, h5⟩
  · exact h k' b' h1 h2 h3 h4 (Or.inl h5)
  · by_cases e2 : b' = b
    · rw [e2]; exact hn
    · exact h k' b' h1 h2 h3 h4 (Or.inr ⟨e, by omega⟩)
theorem dv_cg {b p : Nat} (h : px_dv b p) : px_cg b 0 p := by
  unfold px_cg
  rw [Nat.zero_xor]
  exact h
theorem cg_dv {b p : Nat} (h : px_cg b 0 p) : px_dv b p := by
  unfold px_cg at h
  rw [Nat.zero_xor] at h
  exact h
set_option maxHeartbeats 4000000 in
set_option maxRecDepth 100000 in
theorem c_O_orderN (l : Launch) (dC : Nat → ClassId) (dI : Nat → Nat → Nat) (cI cL : ClassId) (sz : Nat) (o0 g1 g2 g3 g4 g5 g6 g7 g8 : Nat) (fl p n vr ir od cc gc oc : Nat) (hm : md p n) (hn : ¬ n ≤ 18) : Met l y_O_order w_O_order ({ frames := 0, cells := 0, slots := 0, locals := 0 } : Room) (va_Pc [.ref o0] (wq_W (dC, dI) classes [(o0, .inr (4, [.int (nI fl), .long (lN p), .int (nI n), .long (lN vr), .int (nI ir), .long (lN od), .int (nI cc), .ref g1, .int (nI gc), .ref g2, .ref g3, .ref g4, .int (nI oc), .ref g5, .ref g6, .ref g7, .ref g8]))] [(cI, .int), (cL, .long)] sz)) (va_Ql (fun (r : Int64) (u : Unit) => r = -1) (fun (u : Unit) t => wq_B (dC, dI) classes [(cI, .int), (cL, .long)] (va_A [(o0, .inr (4, [.int (nI fl), .long (lN p), .int (nI n), .long (lN vr), .int (nI ir), .long (lN od), .int (nI cc), .ref g1, .int (nI gc), .ref g2, .ref g3, .ref g4, .int (nI oc), .ref g5, .ref g6, .ref g7, .ref g8]))] sz) [(o0, .inr (4, [.int (nI 0), .long (lN p), .int (nI n), .long (lN vr), .int (nI ir), .long (lN od), .int (nI cc), .ref g1, .int (nI gc), .ref g2, .ref g3, .ref g4, .int (nI oc), .ref g5, .ref g6, .ref g7, .ref g8]))] t) (va_A [(o0, .inr (4, [.int (nI fl), .long (lN p), .int (nI n), .long (lN vr), .int (nI ir), .long (lN od), .int (nI cc), .ref g1, .int (nI gc), .ref g2, .ref g3, .ref g4, .int (nI oc), .ref g5, .ref g6, .ref g7, .ref g8]))] sz)) 0 0 (va_A [(o0, .inr (4, [.int (nI fl), .long (lN p), .int (nI n), .long (lN vr), .int (nI ir), .long (lN od), .int (nI cc), .ref g1, .int (nI gc), .ref g2, .ref g3, .ref g4, .int (nI oc), .ref g5, .ref g6, .ref g7, .ref g8]))] sz) := by
  refine Met.ofW (cc := b_O_order) (maxL := 3) (ret := (Option.some Jvm.ClassFile.FieldType.long)) (by decide) rfl ?_
  intro pg en st mm ar bw me co s₁ B hml hv
  obtain ⟨rfl, hsz, hP, hK, hD0, hN⟩ := hv
  have hx := B.exec
  have hb := B.bytes
  have hr := B.returns
  have hlocks := B.notSynchronized
  have hts0 := atoms_spec (ws := w_O_order) B.pre
  have hts : ∀ w ∈ gw, w.before _ st = true := fun w h => hts0 w (List.mem_cons_of_mem _ h)
  have hown : st.vm.findClass R_O = some mm.cls := findClass_of_methodNamed B.named
  subst hsz
  have hD := hD0.self (sz := st.heap.size)
  generalize hAe : va_A [(o0, .inr (4, [.int (nI fl), .long (lN p), .int (nI n), .long (lN vr), .int (nI ir), .long (lN od), .int (nI cc), .ref g1, .int (nI gc), .ref g2, .ref g3, .ref g4, .int (nI oc), .ref g5, .ref g6, .ref g7, .ref g8]))] st.heap.size = A at hD ⊢
  have hA : ∀ q : Nat, st.heap.size ≤ q → A q := fun q h => by rw [← hAe]; exact Or.inr h
  have hS : va_S A st.heap st.heap [] := va_S.rf
  have hl := lv_entry ([.ref o0]) (n := 3) (Nat.le_of_ble_eq_true rfl)
  rw [lg_entry_eq]
  generalize (lg_sl ([.ref o0]) ++ List.replicate (3 - (lg_sl ([.ref o0])).length) Slot.unset).toArray = ls at hl ⊢
  have hl : lv_has ls 3 [(0, .ref o0)] := hl
  have hn2 := hm.2.1
  refine lv_aload_n hx hb d_O_order_0 rfl (lv_at hl 0 rfl) ?_
  refine lv_iconst (v := nI 0) hx hb d_O_order_1 (by decide) ?_
  refine va_put (D := (dC, dI)) (ci := 4) (v := .int (nI 0)) (ty := .int) (C := R_O) (T := F_O) (N := 17) hx hb hts in_O t_O t_O_ok n_O hown hK hP hD hS 0 rfl rfl 0 (by decide) (hts _ kw_528) (fun _ h9 => h9) rfl (by decide +kernel) rfl rfl (Nat.le_of_ble_eq_true rfl) d_O_order_2 (fun H locs hP hD hS => ?_)
  have hP : va_P (dC, dI) classes [(o0, .inr (4, [.int (nI 0), .long (lN p), .int (nI n), .long (lN vr), .int (nI ir), .long (lN od), .int (nI cc), .ref g1, .int (nI gc), .ref g2, .ref g3, .ref g4, .int (nI oc), .ref g5, .ref g6, .ref g7, .ref g8]))] H := hP
  have hD : va_D A [(o0, .inr (4, [.int (nI 0), .long (lN p), .int (nI n), .long (lN vr), .int (nI ir), .long (lN od), .int (nI cc), .ref g1, .int (nI gc), .ref g2, .ref g3, .ref g4, .int (nI oc), .ref g5, .ref g6, .ref g7, .ref g8]))] := hD
  refine lv_aload_n hx hb d_O_order_5 rfl (lv_at hl 0 rfl) ?_
  refine va_get (D := (dC, dI)) (ci := 4) (v := .int (nI n)) (C := R_O) (T := F_O) (N := 17) hx hb hts in_O hown hK hP 0 rfl rfl 2 (by decide) (hts _ kw_530) (fun _ h9 => h9) rfl d_O_order_6 ?_
  refine lv_bipush (v := nI 18) hx hb d_O_order_9 (by decide) ?_
  refine lv_icmp_le (tgt := 18) hx hb d_O_order_11 (by decide) (fun hc => absurd hc (fun z => hn ((nI_leI (by omega) (by decide)).mp z))) (fun _ => ?_)
  refine lv_ldc2 (v := (-1)) hx hb hown (hts _ kw_648) d_O_order_14 ?_
  have hP := hP.sub (ws' := [(o0, .inr (4, [.int (nI 0), .long (lN p), .int (nI n), .long (lN vr), .int (nI ir), .long (lN od), .int (nI cc), .ref g1, .int (nI gc), .ref g2, .ref g3, .ref g4, .int (nI oc), .ref g5, .ref g6, .ref g7, .ref g8]))]) [0] rfl
  have hD := hD.sub (ws' := [(o0, .inr (4, [.int (nI 0), .long (lN p), .int (nI n), .long (lN vr), .int (nI ir), .long (lN od), .int (nI cc), .ref g1, .int (nI gc), .ref g2, .ref g3, .ref g4, .int (nI oc), .ref g5, .ref g6, .ref g7, .ref g8]))]) [0] (by decide) rfl
  exact W.lret (v := (-1)) hx hb hr (fun t9 ht hW => ⟨⟨(-1), (), rfl, rfl, by rw [ht]; exact hP, va_K.moved hW.alike hK, hD⟩, hS.F ht⟩) hS.2.2 d_O_order_17
set_option maxHeartbeats 4000000 in
set_option maxRecDepth 100000 in
theorem c_O_orderC (l : Launch) (dC : Nat → ClassId) (dI : Nat → Nat → Nat) (cI cL : ClassId) (sz : Nat) (o0 g1 g2 g3 g4 g5 g6 g7 g8 : Nat) (fl p n vr ir od cc gc oc : Nat) (hm : md p n) (hn : n ≤ 18) (hod : od ≠ 0) (hod2 : od < 2 ^ 63) : Met l y_O_order w_O_order ({ frames := 2, cells := 0, slots := 0, locals := 49 } : Room) (va_Pc [.ref o0] (wq_W (dC, dI) classes [(o0, .inr (4, [.int (nI fl), .long (lN p), .int (nI n), .long (lN vr), .int (nI ir), .long (lN od), .int (nI cc), .ref g1, .int (nI gc), .ref g2, .ref g3, .ref g4, .int (nI oc), .ref g5, .ref g6, .ref g7, .ref g8]))] [(cI, .int), (cL, .long)] sz)) (va_Ql (fun (r : Int64) (u : Unit) => r = lN od) (fun (u : Unit) t => wq_B (dC, dI) classes [(cI, .int), (cL, .long)] (va_A [(o0, .inr (4, [.int (nI fl), .long (lN p), .int (nI n), .long (lN vr), .int (nI ir), .long (lN od), .int (nI cc), .ref g1, .int (nI gc), .ref g2, .ref g3, .ref g4, .int (nI oc), .ref g5, .ref g6, .ref g7, .ref g8]))] sz) [(o0, .inr (4, [.int (nI 0), .long (lN p), .int (nI n), .long (lN vr), .int (nI ir), .long (lN od), .int (nI cc), .ref g1, .int (nI gc), .ref g2, .ref g3, .ref g4, .int (nI oc), .ref g5, .ref g6, .ref g7, .ref g8]))] t) (va_A [(o0, .inr (4, [.int (nI fl), .long (lN p), .int (nI n), .long (lN vr), .int (nI ir), .long (lN od), .int (nI cc), .ref g1, .int (nI gc), .ref g2, .ref g3, .ref g4, .int (nI oc), .ref g5, .ref g6, .ref g7, .ref g8]))] sz)) 0 0 (va_A [(o0, .inr (4, [.int (nI fl), .long (lN p), .int (nI n), .long (lN vr), .int (nI ir), .long (lN od), .int (nI cc), .ref g1, .int (nI gc), .ref g2, .ref g3, .ref g4, .int (nI oc), .ref g5, .ref g6, .ref g7, .ref g8]))] sz) := by
  refine Met.ofW (cc := b_O_order) (maxL := 3) (ret := (Option.some Jvm.ClassFile.FieldType.long)) (by decide) rfl ?_
  intro pg en st mm ar bw me co s₁ B hml hv
  obtain ⟨rfl, hsz, hP, hK, hD0, hN⟩ := hv
  have hx := B.exec
  have hb := B.bytes
  have hr := B.returns
  have hlocks := B.notSynchronized
  have hts0 := atoms_spec (ws := w_O_order) B.pre
  have hts : ∀ w ∈ gw, w.before _ st = true := fun w h => hts0 w (List.mem_cons_of_mem _ h)
  have hown : st.vm.findClass R_O = some mm.cls := findClass_of_methodNamed B.named
  subst hsz
  have hD := hD0.self (sz := st.heap.size)
  generalize hAe : va_A [(o0, .inr (4, [.int (nI fl), .long (lN p), .int (nI n), .long (lN vr), .int (nI ir), .long (lN od), .int (nI cc), .ref g1, .int (nI gc), .ref g2, .ref g3, .ref g4, .int (nI oc), .ref g5, .ref g6, .ref g7, .ref g8]))] st.heap.size = A at hD ⊢
  have hA : ∀ q : Nat, st.heap.size ≤ q → A q := fun q h => by rw [← hAe]; exact Or.inr h
  have hS : va_S A st.heap st.heap [] := va_S.rf
  have hl := lv_entry ([.ref o0]) (n := 3) (Nat.le_of_ble_eq_true rfl)
  rw [lg_entry_eq]
  generalize (lg_sl ([.ref o0]) ++ List.replicate (3 - (lg_sl ([.ref o0])).length) Slot.unset).toArray = ls at hl ⊢
  have hl : lv_has ls 3 [(0, .ref o0)] := hl
  refine lv_aload_n hx hb d_O_order_0 rfl (lv_at hl 0 rfl) ?_
  refine lv_iconst (v := nI 0) hx hb d_O_order_1 (by decide) ?_
  refine va_put (D := (dC, dI)) (ci := 4) (v := .int (nI 0)) (ty := .int) (C := R_O) (T := F_O) (N := 17) hx hb hts in_O t_O t_O_ok n_O hown hK hP hD hS 0 rfl rfl 0 (by decide) (hts _ kw_528) (fun _ h9 => h9) rfl (by decide +kernel) rfl rfl (Nat.le_of_ble_eq_true rfl) d_O_order_2 (fun H locs hP hD hS => ?_)
  have hP : va_P (dC, dI) classes [(o0, .inr (4, [.int (nI 0), .long (lN p), .int (nI n), .long (lN vr), .int (nI ir), .long (lN od), .int (nI cc), .ref g1, .int (nI gc), .ref g2, .ref g3, .ref g4, .int (nI oc), .ref g5, .ref g6, .ref g7, .ref g8]))] H := hP
  have hD : va_D A [(o0, .inr (4, [.int (nI 0), .long (lN p), .int (nI n), .long (lN vr), .int (nI ir), .long (lN od), .int (nI cc), .ref g1, .int (nI gc), .ref g2, .ref g3, .ref g4, .int (nI oc), .ref g5, .ref g6, .ref g7, .ref g8]))] := hD
  refine lv_aload_n hx hb d_O_order_5 rfl (lv_at hl 0 rfl) ?_
  refine va_get (D := (dC, dI)) (ci := 4) (v := .int (nI n)) (C := R_O) (T := F_O) (N := 17) hx hb hts in_O hown hK hP 0 rfl rfl 2 (by decide) (hts _ kw_530) (fun _ h9 => h9) rfl d_O_order_6 ?_
  refine lv_bipush (v := nI 18) hx hb d_O_order_9 (by decide) ?_
  refine lv_icmp_le (tgt := 18) hx hb d_O_order_11 (by decide) (fun _ => ?_) (fun hc => absurd hc (fun z => z ((nI_leI (by omega) (by decide)).mpr hn)))
  refine lv_aload_n hx hb d_O_order_18 rfl (lv_at hl 0 rfl) ?_
  refine va_get (D := (dC, dI)) (ci := 4) (v := .long (lN od)) (C := R_O) (T := F_O) (N := 17) hx hb hts in_O hown hK hP 0 rfl rfl 5 (by decide) (hts _ kw_533) (fun _ h9 => h9) rfl d_O_order_19 ?_
  refine lv_lconst (v := lN 0) hx hb d_O_order_22 (by decide) ?_
  refine W.lcmp hx hb d_O_order_23 ?_
  refine lv_if_ne (tgt := 65) hx hb d_O_order_24 (by decide) (fun _ => ?_) (fun hc => absurd hc (fun z => hod ((lN_eqI (b := 0) (by omega) (by decide)).mp (cmq_eq z))))
  refine lv_aload_n hx hb d_O_order_65 rfl (lv_at hl 0 rfl) ?_
  refine va_get (D := (dC, dI)) (ci := 4) (v := .long (lN od)) (C := R_O) (T := F_O) (N := 17) hx hb hts in_O hown hK hP 0 rfl rfl 5 (by decide) (hts _ kw_533) (fun _ h9 => h9) rfl d_O_order_66 ?_
  have hP := hP.sub (ws' := [(o0, .inr (4, [.int (nI 0), .long (lN p), .int (nI n), .long (lN vr), .int (nI ir), .long (lN od), .int (nI cc), .ref g1, .int (nI gc), .ref g2, .ref g3, .ref g4, .int (nI oc), .ref g5, .ref g6, .ref g7, .ref g8]))]) [0] rfl
  have hD := hD.sub (ws' := [(o0, .inr (4, [.int (nI 0), .long (lN p), .int (nI n), .long (lN vr), .int (nI ir), .long (lN od), .int (nI cc), .ref g1, .int (nI gc), .ref g2, .ref g3, .ref g4, .int (nI oc), .ref g5, .ref g6, .ref g7, .ref g8]))]) [0] (by decide) rfl
  exact W.lret (v := lN od) hx hb hr (fun t9 ht hW => ⟨⟨lN od, (), rfl, rfl, by rw [ht]; exact hP, va_K.moved hW.alike hK, hD⟩, hS.F ht⟩) hS.2.2 d_O_order_69
set_option maxHeartbeats 4000000 in
set_option maxRecDepth 100000 in
theorem c_O_orderY (l : Launch) (dC : Nat → ClassId) (dI : Nat → Nat → Nat) (cI cL : ClassId) (sz : Nat) (o0 g1 g2 g3 g4 g5 g6 g7 g8 : Nat) (fl p n vr ir cc gc oc : Nat) (hm : md p n) (hn : n ≤ 18) (d : Nat) (hd : px_ord p d) : Met l y_O_order w_O_order ({ frames := 2, cells := 0, slots := 0, locals := 49 } : Room) (va_Pc [.ref o0] (wq_W (dC, dI) classes [(o0, .inr (4, [.int (nI fl), .long (lN p), .int (nI n), .long (lN vr), .int (nI ir), .long (lN 0), .int (nI cc), .ref g1, .int (nI gc), .ref g2, .ref g3, .ref g4, .int (nI oc), .ref g5, .ref g6, .ref g7, .ref g8]))] [(cI, .int), (cL, .long)] sz)) (va_Ql (fun (r : Int64) (u : Unit) => r = lN d) (fun (u : Unit) t => wq_B (dC, dI) classes [(cI, .int), (cL, .long)] (va_A [(o0, .inr (4, [.int (nI fl), .long (lN p), .int (nI n), .long (lN vr), .int (nI ir), .long (lN 0), .int (nI cc), .ref g1, .int (nI gc), .ref g2, .ref g3, .ref g4, .int (nI oc), .ref g5, .ref g6, .ref g7, .ref g8]))] sz) [(o0, .inr (4, [.int (nI 0), .long (lN p), .int (nI n), .long (lN vr), .int (nI ir), .long (lN d), .int (nI cc), .ref g1, .int (nI gc), .ref g2, .ref g3, .ref g4, .int (nI oc), .ref g5, .ref g6, .ref g7, .ref g8]))] t) (va_A [(o0, .inr (4, [.int (nI fl), .long (lN p), .int (nI n), .long (lN vr), .int (nI ir), .long (lN 0), .int (nI cc), .ref g1, .int (nI gc), .ref g2, .ref g3, .ref g4, .int (nI oc), .ref g5, .ref g6, .ref g7, .ref g8]))] sz)) 0 0 (va_A [(o0, .inr (4, [.int (nI fl), .long (lN p), .int (nI n), .long (lN vr), .int (nI ir), .long (lN 0), .int (nI cc), .ref g1, .int (nI gc), .ref g2, .ref g3, .ref g4, .int (nI oc), .ref g5, .ref g6, .ref g7, .ref g8]))] sz) := by
  refine Met.ofW (cc := b_O_order) (maxL := 3) (ret := (Option.some Jvm.ClassFile.FieldType.long)) (by decide) rfl ?_
  intro pg en st mm ar bw me co s₁ B hml hv
  obtain ⟨rfl, hsz, hP, hK, hD0, hN⟩ := hv
  have hx := B.exec
  have hb := B.bytes
  have hr := B.returns
  have hlocks := B.notSynchronized
  have hts0 := atoms_spec (ws := w_O_order) B.pre
  have hts : ∀ w ∈ gw, w.before _ st = true := fun w h => hts0 w (List.mem_cons_of_mem _ h)
  have hown : st.vm.findClass R_O = some mm.cls := findClass_of_methodNamed B.named
  subst hsz
  have hD := hD0.self (sz := st.heap.size)
  generalize hAe : va_A [(o0, .inr (4, [.int (nI fl), .long (lN p), .int (nI n), .long (lN vr), .int (nI ir), .long (lN 0), .int (nI cc), .ref g1, .int (nI gc), .ref g2, .ref g3, .ref g4, .int (nI oc), .ref g5, .ref g6, .ref g7, .ref g8]))] st.heap.size = A at hD ⊢
  have hA : ∀ q : Nat, st.heap.size ≤ q → A q := fun q h => by rw [← hAe]; exact Or.inr h
  have hS : va_S A st.heap st.heap [] := va_S.rf
  have hl := lv_entry ([.ref o0]) (n := 3) (Nat.le_of_ble_eq_true rfl)
  rw [lg_entry_eq]
  generalize (lg_sl ([.ref o0]) ++ List.replicate (3 - (lg_sl ([.ref o0])).length) Slot.unset).toArray = ls at hl ⊢
  have hl : lv_has ls 3 [(0, .ref o0)] := hl
  have loop : ∀ (j k : Nat), j + k = d → 0 < k → ∀ (H : Heap) (locs : List Loc), va_P (dC, dI) classes [(o0, .inr (4, [.int (nI 0), .long (lN p), .int (nI n), .long (lN vr), .int (nI ir), .long (lN k), .int (nI cc), .ref g1, .int (nI gc), .ref g2, .ref g3, .ref g4, .int (nI oc), .ref g5, .ref g6, .ref g7, .ref g8]))] H → va_D A [(o0, .inr (4, [.int (nI 0), .long (lN p), .int (nI n), .long (lN vr), .int (nI ir), .long (lN k), .int (nI cc), .ref g1, .int (nI gc), .ref g2, .ref g3, .ref g4, .int (nI oc), .ref g5, .ref g6, .ref g7, .ref g8]))] → va_S A st.heap H locs → ∀ (ls : Array Slot), lv_has ls 3 [(0, .ref o0), (1, .long (lN (px_r p (2 ^ k))))] → W pg l en (headSpec w_O_order ({ frames := 2, cells := 0, slots := 0, locals := 49 } : Room)).room st mm ([.ref o0] : List Value).toArray bw me co H locs 0 0 (MQ bw (va_Ql (fun (r : Int64) (u : Unit) => r = lN d) (fun (u : Unit) t => wq_B (dC, dI) classes [(cI, .int), (cL, .long)] A [(o0, .inr (4, [.int (nI 0), .long (lN p), .int (nI n), .long (lN vr), .int (nI ir), .long (lN d), .int (nI cc), .ref g1, .int (nI gc), .ref g2, .ref g3, .ref g4, .int (nI oc), .ref g5, .ref g6, .ref g7, .ref g8]))] t) A) ([.ref o0] : List Value).toArray st 0 0 A) (F0 mm 40 ls []) := by
    intro j
    induction j with
    | zero =>
      intro k hj hk0 H locs hP hD hS ls hl
      have hkd : d = k := by omega
      subst hkd
      refine lv_lload_n hx hb d_O_order_40 rfl (lv_at hl 1 rfl) ?_
      refine lv_lconst (v := lN 1) hx hb d_O_order_41 (by decide) ?_
      refine W.lcmp hx hb d_O_order_42 ?_
      refine lv_if_eq (tgt := 65) hx hb d_O_order_43 (by decide) (fun _ => ?_) (fun hc => absurd hc (fun q => q ((lg_cmp_eq _ _).mpr (by rw [(xp_o hm _).mpr hd.2.1]))))
      refine lv_aload_n hx hb d_O_order_65 rfl (lv_at hl 0 rfl) ?_
      refine va_get (D := (dC, dI)) (ci := 4) (v := .long (lN d)) (C := R_O) (T := F_O) (N := 17) hx hb hts in_O hown hK hP 0 rfl rfl 5 (by decide) (hts _ kw_533) (fun _ h9 => h9) rfl d_O_order_66 ?_
      have hP := hP.sub (ws' := [(o0, .inr (4, [.int (nI 0), .long (lN p), .int (nI n), .long (lN vr), .int (nI ir), .long (lN d), .int (nI cc), .ref g1, .int (nI gc), .ref g2, .ref g3, .ref g4, .int (nI oc), .ref g5, .ref g6, .ref g7, .ref g8]))]) [0] rfl
      have hD := hD.sub (ws' := [(o0, .inr (4, [.int (nI 0), .long (lN p), .int (nI n), .long (lN vr), .int (nI ir), .long (lN d), .int (nI cc), .ref g1, .int (nI gc), .ref g2, .ref g3, .ref g4, .int (nI oc), .ref g5, .ref g6, .ref g7, .ref g8]))]) [0] (by decide) rfl
      exact W.lret (v := lN d) hx hb hr (fun t9 ht hW => ⟨⟨lN d, (), rfl, rfl, by rw [ht]; exact hP, va_K.moved hW.alike hK, hD⟩, hS.F ht⟩) hS.2.2 d_O_order_69
    | succ j ih =>
      intro k hj hk0 H locs hP hD hS ls hl
      refine lv_lload_n hx hb d_O_order_40 rfl (lv_at hl 1 rfl) ?_
      refine lv_lconst (v := lN 1) hx hb d_O_order_41 (by decide) ?_
      refine W.lcmp hx hb d_O_order_42 ?_
      refine lv_if_eq (tgt := 65) hx hb d_O_order_43 (by decide) (fun hc => absurd hc (fun q => hd.2.2 k hk0 (by omega) ((xp_o hm _).mp ((lN_eqI (b := 1) (r_lt64 hm _) (by decide)).mp (cmq_eq q))))) (fun _ => ?_)
      refine lv_aload_n hx hb d_O_order_46 rfl (lv_at hl 0 rfl) ?_
      refine lv_lload_n hx hb d_O_order_47 rfl (lv_at hl 1 rfl) ?_
      refine vp_callSl (va_Run.run (va_runV (As := [.long (lN (px_r p (2 ^ k)))]) (rest := []) ⟨hx, hb, hml, hown, hts⟩ (c_O_step l dC dI cI cL o0 g1 g2 g3 g4 g5 g6 g7 g8 0 p n vr ir k cc gc oc hm _ (px_r_lt hm _)) (cwV 1 hts (gi_V kw_608 kw_610 ks_O_step kw_5 gi_O_step) rfl rfl rfl ⟨rfl, by decide, by decide, by decide⟩ ⟨Nat.le_of_ble_eq_true rfl, Nat.le_of_ble_eq_true rfl⟩) (wq_preVR hP hK hN [0] rfl (q0 := 0) (ci := 4) rfl rfl rfl) rfl rfl hl.1 rfl (lv_room (Nat.le_of_ble_eq_true rfl)) d_O_order_48 ⟨Nat.le_of_ble_eq_true rfl, Nat.le_of_ble_eq_true rfl⟩)) (fun r hq => ?_)
      have hq : r = lN (px_r p (2 ^ (k + 1))) := by rw [hq, px_r_2 hm, Nat.pow_succ, Nat.mul_comm]
      subst hq
      refine lv_lstore_n (lv' := [(1, .long (lN (px_r p (2 ^ (k + 1))))), (0, .ref o0)]) hx hb d_O_order_51 rfl hl (by decide) rfl (fun ls hl => ?_)
      refine lv_aload_n hx hb d_O_order_52 rfl (lv_at hl 1 rfl) ?_
      refine lv_dup hx hb d_O_order_53 rfl ?_
      refine va_get (D := (dC, dI)) (ci := 4) (v := .long (lN k)) (C := R_O) (T := F_O) (N := 17) hx hb hts in_O hown hK hP 0 rfl rfl 5 (by decide) (hts _ kw_533) (fun _ h9 => h9) rfl d_O_order_54 ?_
      refine lv_lconst (v := lN 1) hx hb d_O_order_57 (by decide) ?_
      refine lv_ladd hx hb d_O_order_58 ?_
      refine lv_topl (nm_r (show _ = lN (k + 1) from lN_add k 1) ?_)
      refine va_put (D := (dC, dI)) (ci := 4) (v := .long (lN (k + 1))) (ty := .long) (C := R_O) (T := F_O) (N := 17) hx hb hts in_O t_O t_O_ok n_O hown hK hP hD hS 0 rfl rfl 5 (by decide) (hts _ kw_533) (fun _ h9 => h9) rfl (by decide +kernel) rfl rfl (Nat.le_of_ble_eq_true rfl) d_O_order_59 (fun H locs hP hD hS => ?_)
      have hP : va_P (dC, dI) classes [(o0, .inr (4, [.int (nI 0), .long (lN p), .int (nI n), .long (lN vr), .int (nI ir), .long (lN (k + 1)), .int (nI cc), .ref g1, .int (nI gc), .ref g2, .ref g3, .ref g4, .int (nI oc), .ref g5, .ref g6, .ref g7, .ref g8]))] H := hP
      have hD : va_D A [(o0, .inr (4, [.int (nI 0), .long (lN p), .int (nI n), .long (lN vr), .int (nI ir), .long (lN (k + 1)), .int (nI cc), .ref g1, .int (nI gc), .ref g2, .ref g3, .ref g4, .int (nI oc), .ref g5, .ref g6, .ref g7, .ref g8]))] := hD
      refine lv_goto (tgt := 40) hx hb d_O_order_62 (by decide) ?_
      have hl := lv_sub (l' := [(0, .ref o0), (1, .long (lN (px_r p (2 ^ (k + 1)))))]) hl [1, 0] rfl
      exact ih (k + 1) (by omega) (by omega) H locs hP hD hS ls hl
  refine lv_aload_n hx hb d_O_order_0 rfl (lv_at hl 0 rfl) ?_
  refine lv_iconst (v := nI 0) hx hb d_O_order_1 (by decide) ?_
  refine va_put (D := (dC, dI)) (ci := 4) (v := .int (nI 0)) (ty := .int) (C := R_O) (T := F_O) (N := 17) hx hb hts in_O t_O t_O_ok n_O hown hK hP hD hS 0 rfl rfl 0 (by decide) (hts _ kw_528) (fun _ h9 => h9) rfl (by decide +kernel) rfl rfl (Nat.le_of_ble_eq_true rfl) d_O_order_2 (fun H locs hP hD hS => ?_)
  have hP : va_P (dC, dI) classes [(o0, .inr (4, [.int (nI 0), .long (lN p), .int (nI n), .long (lN vr), .int (nI ir), .long (lN 0), .int (nI cc), .ref g1, .int (nI gc), .ref g2, .ref g3, .ref g4, .int (nI oc), .ref g5, .ref g6, .ref g7, .ref g8]))] H := hP
  have hD : va_D A [(o0, .inr (4, [.int (nI 0), .long (lN p), .int (nI n), .long (lN vr), .int (nI ir), .long (lN 0), .int (nI cc), .ref g1, .int (nI gc), .ref g2, .ref g3, .ref g4, .int (nI oc), .ref g5, .ref g6, .ref g7, .ref g8]))] := hD
  refine lv_aload_n hx hb d_O_order_5 rfl (lv_at hl 0 rfl) ?_
  refine va_get (D := (dC, dI)) (ci := 4) (v := .int (nI n)) (C := R_O) (T := F_O) (N := 17) hx hb hts in_O hown hK hP 0 rfl rfl 2 (by decide) (hts _ kw_530) (fun _ h9 => h9) rfl d_O_order_6 ?_
  refine lv_bipush (v := nI 18) hx hb d_O_order_9 (by decide) ?_
  refine lv_icmp_le (tgt := 18) hx hb d_O_order_11 (by decide) (fun _ => ?_) (fun hc => absurd hc (fun z => z ((nI_leI (by omega) (by decide)).mpr hn)))
  refine lv_aload_n hx hb d_O_order_18 rfl (lv_at hl 0 rfl) ?_
  refine va_get (D := (dC, dI)) (ci := 4) (v := .long (lN 0)) (C := R_O) (T := F_O) (N := 17) hx hb hts in_O hown hK hP 0 rfl rfl 5 (by decide) (hts _ kw_533) (fun _ h9 => h9) rfl d_O_order_19 ?_
  refine lv_lconst (v := lN 0) hx hb d_O_order_22 (by decide) ?_
  refine W.lcmp hx hb d_O_order_23 ?_
  refine lv_if_ne (tgt := 65) hx hb d_O_order_24 (by decide) (fun hc => absurd hc (fun z => z ((lg_cmp_eq _ _).mpr rfl))) (fun _ => ?_)
  refine lv_aload_n hx hb d_O_order_27 rfl (lv_at hl 0 rfl) ?_
  refine lv_ldc2 (v := lN 2) hx hb hown (hts _ kw_612) d_O_order_28 ?_
  refine vp_callSl (va_Run.run (va_runV (As := [.long (lN 2)]) (rest := []) ⟨hx, hb, hml, hown, hts⟩ (c_O_reduced l dC dI cI cL o0 g1 g2 g3 g4 g5 g6 g7 g8 0 p n vr ir 0 cc gc oc hm 2 (by decide)) (cwV 1 hts (gi_V kw_621 kw_623 ks_O_reduced kw_5 gi_O_reduced) rfl rfl rfl ⟨rfl, by decide, by decide, by decide⟩ ⟨Nat.le_of_ble_eq_true rfl, Nat.le_of_ble_eq_true rfl⟩) (wq_preVR hP hK hN [0] rfl (q0 := 0) (ci := 4) rfl rfl rfl) rfl rfl hl.1 rfl (lv_room (Nat.le_of_ble_eq_true rfl)) d_O_order_31 ⟨Nat.le_of_ble_eq_true rfl, Nat.le_of_ble_eq_true rfl⟩)) (fun r hq => ?_)
  subst hq
  refine lv_lstore_n (lv' := [(1, .long (lN (px_r p 2))), (0, .ref o0)]) hx hb d_O_order_34 rfl hl (by decide) rfl (fun ls hl => ?_)
  refine lv_aload_n hx hb d_O_order_35 rfl (lv_at hl 1 rfl) ?_
  refine lv_lconst (v := lN 1) hx hb d_O_order_36 (by decide) ?_
  refine va_put (D := (dC, dI)) (ci := 4) (v := .long (lN 1)) (ty := .long) (C := R_O) (T := F_O) (N := 17) hx hb hts in_O t_O t_O_ok n_O hown hK hP hD hS 0 rfl rfl 5 (by decide) (hts _ kw_533) (fun _ h9 => h9) rfl (by decide +kernel) rfl rfl (Nat.le_of_ble_eq_true rfl) d_O_order_37 (fun H locs hP hD hS => ?_)
  have hP : va_P (dC, dI) classes [(o0, .inr (4, [.int (nI 0), .long (lN p), .int (nI n), .long (lN vr), .int (nI ir), .long (lN 1), .int (nI cc), .ref g1, .int (nI gc), .ref g2, .ref g3, .ref g4, .int (nI oc), .ref g5, .ref g6, .ref g7, .ref g8]))] H := hP
  have hD : va_D A [(o0, .inr (4, [.int (nI 0), .long (lN p), .int (nI n), .long (lN vr), .int (nI ir), .long (lN 1), .int (nI cc), .ref g1, .int (nI gc), .ref g2, .ref g3, .ref g4, .int (nI oc), .ref g5, .ref g6, .ref g7, .ref g8]))] := hD
  have e9 : (lN (px_r p 2)) = (lN (px_r p (2 ^ 1))) := rfl
  have hl : lv_has ls 3 [(1, .long (lN (px_r p (2 ^ 1)))), (0, .ref o0)] := by rw [← e9]; exact hl
  have hl := lv_sub (l' := [(0, .ref o0), (1, .long (lN (px_r p (2 ^ 1))))]) hl [1, 0] rfl
  exact loop (d - 1) 1 (by have := hd.1; omega) (by decide) H locs hP hD hS ls hl
set_option maxHeartbeats 4000000 in
set_option maxRecDepth 100000 in
theorem c_O_isProduct (l : Launch) (dC : Nat → ClassId) (dI : Nat → Nat → Nat) (cI cL : ClassId) (o0 g1 g2 g3 g4 g5 g6 g7 g8 : Nat) (fl p n vr ir od cc gc oc : Nat) (hm : md p n) : Met l y_O_isProduct w_O_isProduct ({ frames := 0, cells := 0, slots := 0, locals := 0 } : Room) (va_Pc [.ref o0] (wq_R (dC, dI) classes [(o0, .inr (4, [.int (nI fl), .long (lN p), .int (nI n), .long (lN vr), .int (nI ir), .long (lN od), .int (nI cc), .ref g1, .int (nI gc), .ref g2, .ref g3, .ref g4, .int (nI oc), .ref g5, .ref g6, .ref g7, .ref g8]))] [(cI, .int), (cL, .long)])) (vp_Si (fun r => (r = 1 ∧ ¬ px_ir p) ∨ (r = 0 ∧ px_ir p))) 0 0 (fun _ => False) := by
  refine Met.ofW (cc := b_O_isProduct) (maxL := 7) (ret := (Option.some Jvm.ClassFile.FieldType.boolean)) (by decide) rfl ?_
  intro pg en st mm ar bw me co s₁ B hml hv
  obtain ⟨rfl, hP, hK, hN⟩ := hv
  have hx := B.exec
  have hb := B.bytes
  have hr := B.returns
  have hlocks := B.notSynchronized
  have hts0 := atoms_spec (ws := w_O_isProduct) B.pre
  have hts : ∀ w ∈ gw, w.before _ st = true := fun w h => hts0 w (List.mem_cons_of_mem _ h)
  have hown : st.vm.findClass R_O = some mm.cls := findClass_of_methodNamed B.named
  have hl := lv_entry ([.ref o0]) (n := 7) (Nat.le_of_ble_eq_true rfl)
  rw [lg_entry_eq]
  generalize (lg_sl ([.ref o0]) ++ List.replicate (7 - (lg_sl ([.ref o0])).length) Slot.unset).toArray = ls at hl ⊢
  have hl : lv_has ls 7 [(0, .ref o0)] := hl
  have hn := hm.2.1
  have hn1 := hm.1
  have hp2 : 2 ≤ p := md_2 hm
  have hit := ir_trial hp2 hm.2.2.2.2 hm.2.2.1 hm.2.2.2.1
  have loop : ∀ (j k : Nat), j + k = n / 2 + 1 → 1 ≤ k → nd_p p k 0 → ∀ (ls : Array Slot), lv_has ls 7 [(0, .ref o0), (1, .int (nI k))] → W pg l en (headSpec w_O_isProduct ({ frames := 0, cells := 0, slots := 0, locals := 0 } : Room)).room st mm ([.ref o0] : List Value).toArray bw me co st.heap [] 0 0 (MQ bw (vp_Si (fun r => (r = 1 ∧ ¬ px_ir p) ∨ (r = 0 ∧ px_ir p))) ([.ref o0] : List Value).toArray st 0 0 (fun _ => False)) (F0 mm 2 ls []) := by
    intro j
    induction j with
    | zero =>
      intro k hj hk1 hnd ls hl
      refine lv_iconst (v := nI 2) hx hb d_O_isProduct_2 (by decide) ?_
      refine lv_iload_n hx hb d_O_isProduct_3 rfl (lv_at hl 1 rfl) ?_
      refine lv_imul hx hb d_O_isProduct_4 ?_
      refine lv_topi (nm_r (show _ = nI (2 * k) from pk_mul 2 k) ?_)
      refine lv_aload_n hx hb d_O_isProduct_5 rfl (lv_at hl 0 rfl) ?_
      refine va_get (D := (dC, dI)) (ci := 4) (v := .int (nI n)) (C := R_O) (T := F_O) (N := 17) hx hb hts in_O hown hK hP 0 rfl rfl 2 (by decide) (hts _ kw_530) (fun _ h9 => h9) rfl d_O_isProduct_6 ?_
      refine lv_icmp_gt (tgt := 104) hx hb d_O_isProduct_9 (by decide) (fun hc => ?_) (fun hc => ?_)
      · refine lv_iconst (v := nI 0) hx hb d_O_isProduct_104 (by decide) ?_
        exact W.zret (v := nI 0) hx hb hr (rfl) (fun t9 ht hW => ⟨nI 0, rfl, Or.inr ⟨rfl, Classical.byContradiction fun z => by
            obtain ⟨k', b', g1_, g2_, g3_, g4_, g5_, g6_⟩ := hit.mp z
            exact hnd k' b' g1_ g3_ g4_ g5_ (Or.inl (by omega)) g6_⟩, ht⟩) (fun _ h => nomatch h) d_O_isProduct_105
      · exact absurd ((nI_ltI (by omega) (by omega)).mpr (by omega)) hc
    | succ j ih =>
      intro k hj hk1 hnd ls hl
      have hk16 : k ≤ 16 := by omega
      have hkp : 2 ^ k ≤ 2 ^ 16 := Nat.pow_le_pow_right (by decide) hk16
      have hkp1 : 2 ^ 1 ≤ 2 ^ k := Nat.pow_le_pow_right (by decide) hk1
      have hke : 2 ^ k % 2 = 0 := p2_even hk1
      have hks : 2 ^ (k + 1) = 2 * 2 ^ k := by rw [Nat.pow_succ, Nat.mul_comm]
      have mid : ∀ (m b : Nat), b + 2 * m = 2 * 2 ^ k + 1 → 2 ^ k < b → b % 2 = 1 → nd_p p k b → ∀ (ls : Array Slot), lv_has ls 7 [(0, .ref o0), (1, .int (nI k)), (2, .long (lN b))] → W pg l en (headSpec w_O_isProduct ({ frames := 0, cells := 0, slots := 0, locals := 0 } : Room)).room st mm ([.ref o0] : List Value).toArray bw me co st.heap [] 0 0 (MQ bw (vp_Si (fun r => (r = 1 ∧ ¬ px_ir p) ∨ (r = 0 ∧ px_ir p))) ([.ref o0] : List Value).toArray st 0 0 (fun _ => False)) (F0 mm 18 ls []) := by
        intro m
        induction m with
        | zero =>
          intro b hbm hb1 hb2 hnd2 ls hl
          refine lv_lload_n hx hb d_O_isProduct_18 rfl (lv_at hl 2 rfl) ?_
          refine lv_ldc2 (v := lN 2) hx hb hown (hts _ kw_612) d_O_isProduct_19 ?_
          refine lv_iload_n hx hb d_O_isProduct_22 rfl (lv_at hl 1 rfl) ?_
          refine lv_lshl (v := lN (2 * 2 ^ k)) hx hb d_O_isProduct_23 (wb_shl 2 (by omega)) ?_
          refine W.lcmp hx hb d_O_isProduct_24 ?_
          refine lv_if_ge (tgt := 98) hx hb d_O_isProduct_25 (by decide) (fun hc => ?_) (fun hc => ?_)
          · refine lv_iinc (v := nI (k + 1)) (lv' := [(1, .int (nI (k + 1))), (0, .ref o0), (2, .long (lN b))]) hx hb d_O_isProduct_98 hl (k := 1) rfl (nI_1 k) (by decide) rfl (fun ls hl => ?_)
            refine lv_goto (tgt := 2) hx hb d_O_isProduct_101 (by decide) ?_
            have hl := lv_sub (l' := [(0, .ref o0), (1, .int (nI (k + 1)))]) hl [1, 0] rfl
            exact ih (k + 1) (by omega) (by omega) (nd_up hnd2 (by omega)) ls hl
          · exact absurd ((lN_lt63 (by omega) (by omega)).mp (cm_lt hc)) (by omega)
        | succ m ih2 =>
          intro b hbm hb1 hb2 hnd2 ls hl
          have hmb : md b k := ⟨hk1, by omega, by omega, by omega, hb2⟩
          have red : ∀ (i v : Nat), k + i ≤ 33 → v < 2 ^ (k + i) → px_cg b v p → ∀ (ls : Array Slot), lv_has ls 7 [(0, .ref o0), (1, .int (nI k)), (2, .long (lN b)), (4, .long (lN v)), (6, .int (jm (k + i)))] → W pg l en (headSpec w_O_isProduct ({ frames := 0, cells := 0, slots := 0, locals := 0 } : Room)).room st mm ([.ref o0] : List Value).toArray bw me co st.heap [] 0 0 (MQ bw (vp_Si (fun r => (r = 1 ∧ ¬ px_ir p) ∨ (r = 0 ∧ px_ir p))) ([.ref o0] : List Value).toArray st 0 0 (fun _ => False)) (F0 mm 40 ls []) := by
            intro i
            induction i with
            | zero =>
              intro v hi hv hcg ls hl
              refine lv_iload hx hb d_O_isProduct_40 (lv_at hl 4 rfl) ?_
              refine lv_iload_n hx hb d_O_isProduct_42 rfl (lv_at hl 1 rfl) ?_
              refine lv_icmp_lt (tgt := 80) hx hb d_O_isProduct_43 (by decide) (fun hc => ?_) (fun hc => ?_)
              · have hrv := px_r_of hmb hv hcg
                have hv32 : v < 2 ^ 64 := by
                  have h9 : 2 ^ (k + 0) = 2 ^ k := rfl
                  omega
                refine lv_lload hx hb d_O_isProduct_80 (lv_at hl 3 rfl) ?_
                refine lv_lconst (v := lN 0) hx hb d_O_isProduct_82 (by decide) ?_
                refine W.lcmp hx hb d_O_isProduct_83 ?_
                refine lv_if_ne (tgt := 89) hx hb d_O_isProduct_84 (by decide) (fun hz => ?_) (fun hz => ?_)
                · have hz : v ≠ 0 := fun z => cmq_ne hz (by rw [z])
                  refine lv_lload_n hx hb d_O_isProduct_89 rfl (lv_at hl 2 rfl) ?_
                  refine lv_ldc2 (v := lN 2) hx hb hown (hts _ kw_612) d_O_isProduct_90 ?_
                  refine lv_ladd hx hb d_O_isProduct_93 ?_
                  refine lv_topl (nm_r (show _ = lN (b + 2) from lN_add b 2) ?_)
                  refine lv_lstore_n (lv' := [(2, .long (lN (b + 2))), (0, .ref o0), (1, .int (nI k)), (4, .long (lN v)), (6, .int (jm (k + 0)))]) hx hb d_O_isProduct_94 rfl hl (by decide) rfl (fun ls hl => ?_)
                  refine lv_goto (tgt := 18) hx hb d_O_isProduct_95 (by decide) ?_
                  have hl := lv_sub (l' := [(0, .ref o0), (1, .int (nI k)), (2, .long (lN (b + 2)))]) hl [1, 2, 0] rfl
                  exact ih2 (b + 2) (by omega) (by omega) (by omega) (nd_b hnd2 hb2 (fun z => hz (by rw [← hrv]; exact px_r_of hmb (Nat.two_pow_pos k) (dv_cg z)))) ls hl
                · have hz : v = 0 := (lN_eqI (b := 0) hv32 (by decide)).mp (cmq_eq hz)
                  refine lv_iconst (v := nI 1) hx hb d_O_isProduct_87 (by decide) ?_
                  exact W.zret (v := nI 1) hx hb hr (rfl) (fun t9 ht hW => ⟨nI 1, rfl, Or.inl ⟨rfl, hit.mpr ⟨k, b, hk1, by omega, by omega, by omega, hb2, by rw [hz] at hcg; exact cg_dv hcg⟩⟩, ht⟩) (fun _ h => nomatch h) d_O_isProduct_88
              · exact absurd ((jm_lt (by omega) (by omega)).mpr (by omega)) hc
            | succ i ih3 =>
              intro v hi hv hcg ls hl
              obtain ⟨hd1, hd2⟩ := dv_turn hmb.2.2.1 hmb.2.2.2.1 (Nat.le_add_right k i) hv
              have hv64 : v < 2 ^ 64 := Nat.lt_of_lt_of_le hv (Nat.pow_le_pow_right (by decide) (by omega))
              refine lv_iload hx hb d_O_isProduct_40 (lv_at hl 4 rfl) ?_
              refine lv_iload_n hx hb d_O_isProduct_42 rfl (lv_at hl 1 rfl) ?_
              refine lv_icmp_lt (tgt := 80) hx hb d_O_isProduct_43 (by decide) (fun hc => ?_) (fun hc => ?_)
              · exact absurd ((jm_lt (by omega) (by omega)).mp hc) (by omega)
              · have e9 : (jm (k + i + 1)) = (nI (k + i)) := jm_succ (k + i)
                have hl : lv_has ls 7 [(0, .ref o0), (1, .int (nI k)), (2, .long (lN b)), (4, .long (lN v)), (6, .int (nI (k + i)))] := by rw [← e9]; exact hl
                refine lv_lload hx hb d_O_isProduct_46 (lv_at hl 3 rfl) ?_
                refine lv_iload hx hb d_O_isProduct_48 (lv_at hl 4 rfl) ?_
                refine lv_lshr (v := lN v >>> ((nI (k + i)).toInt64 &&& 63)) hx hb d_O_isProduct_50 (rfl) ?_
                refine lv_lconst (v := lN 1) hx hb d_O_isProduct_51 (by decide) ?_
                refine lv_land hx hb d_O_isProduct_52 ?_
                refine lv_topl (nm_r (show _ = lN (v / 2 ^ (k + i) % 2) from sb1 hv64 (by omega)) ?_)
                refine lv_lconst (v := lN 1) hx hb d_O_isProduct_53 (by decide) ?_
                refine W.lcmp hx hb d_O_isProduct_54 ?_
                refine lv_if_ne (tgt := 70) hx hb d_O_isProduct_55 (by decide) (fun hbit => ?_) (fun hbit => ?_)
                · have hbit : ¬ v / 2 ^ (k + i) % 2 = 1 := fun z => cmq_ne hbit (by rw [z])
                  rw [if_neg hbit] at hd1 hd2
                  refine lv_lload hx hb d_O_isProduct_70 (lv_at hl 3 rfl) ?_
                  refine lv_lstore (lv' := [(4, .long (lN v)), (0, .ref o0), (1, .int (nI k)), (2, .long (lN b)), (6, .int (nI (k + i)))]) hx hb d_O_isProduct_72 hl (by decide) rfl (fun ls hl => ?_)
                  refine lv_iinc (v := jm (k + i)) (lv' := [(6, .int (jm (k + i))), (4, .long (lN v)), (0, .ref o0), (1, .int (nI k)), (2, .long (lN b))]) hx hb d_O_isProduct_74 hl (k := 4) rfl (jm_dec (k + i)) (by decide) rfl (fun ls hl => ?_)
                  refine lv_goto (tgt := 40) hx hb d_O_isProduct_77 (by decide) ?_
                  have hl := lv_sub (l' := [(0, .ref o0), (1, .int (nI k)), (2, .long (lN b)), (4, .long (lN v)), (6, .int (jm (k + i)))]) hl [2, 3, 4, 1, 0] rfl
                  exact ih3 (v) (by omega) hd1 (px_cg_trans hd2 hcg) ls hl
                · have hbit : v / 2 ^ (k + i) % 2 = 1 := lN_b1.mp (cmq_eq hbit)
                  rw [if_pos hbit] at hd1 hd2
                  refine lv_lload hx hb d_O_isProduct_58 (lv_at hl 3 rfl) ?_
                  refine lv_lload_n hx hb d_O_isProduct_60 rfl (lv_at hl 2 rfl) ?_
                  refine lv_iload hx hb d_O_isProduct_61 (lv_at hl 4 rfl) ?_
                  refine lv_iload_n hx hb d_O_isProduct_63 rfl (lv_at hl 1 rfl) ?_
                  refine lv_isub hx hb d_O_isProduct_64 ?_
                  refine lv_topi (nm_r (show _ = nI (k + i - k) from pk_sub (Nat.le_add_right k i)) ?_)
                  refine lv_lshl (v := lN (b * 2 ^ (k + i - k))) hx hb d_O_isProduct_65 (wb_shl b (by omega)) ?_
                  refine lv_lxor hx hb d_O_isProduct_66 ?_
                  refine lv_topl (nm_r (show _ = lN (v ^^^ b * 2 ^ (k + i - k)) from lN_xor _ _) ?_)
                  refine lv_goto (tgt := 72) hx hb d_O_isProduct_67 (by decide) ?_
                  refine lv_lstore (lv' := [(4, .long (lN (v ^^^ b * 2 ^ (k + i - k)))), (0, .ref o0), (1, .int (nI k)), (2, .long (lN b)), (6, .int (nI (k + i)))]) hx hb d_O_isProduct_72 hl (by decide) rfl (fun ls hl => ?_)
                  refine lv_iinc (v := jm (k + i)) (lv' := [(6, .int (jm (k + i))), (4, .long (lN (v ^^^ b * 2 ^ (k + i - k)))), (0, .ref o0), (1, .int (nI k)), (2, .long (lN b))]) hx hb d_O_isProduct_74 hl (k := 4) rfl (jm_dec (k + i)) (by decide) rfl (fun ls hl => ?_)
                  refine lv_goto (tgt := 40) hx hb d_O_isProduct_77 (by decide) ?_
                  have hl := lv_sub (l' := [(0, .ref o0), (1, .int (nI k)), (2, .long (lN b)), (4, .long (lN (v ^^^ b * 2 ^ (k + i - k)))), (6, .int (jm (k + i)))]) hl [2, 3, 4, 1, 0] rfl
                  exact ih3 (v ^^^ b * 2 ^ (k + i - k)) (by omega) hd1 (px_cg_trans hd2 hcg) ls hl
          refine lv_lload_n hx hb d_O_isProduct_18 rfl (lv_at hl 2 rfl) ?_
          refine lv_ldc2 (v := lN 2) hx hb hown (hts _ kw_612) d_O_isProduct_19 ?_
          refine lv_iload_n hx hb d_O_isProduct_22 rfl (lv_at hl 1 rfl) ?_
          refine lv_lshl (v := lN (2 * 2 ^ k)) hx hb d_O_isProduct_23 (wb_shl 2 (by omega)) ?_
          refine W.lcmp hx hb d_O_isProduct_24 ?_
          refine lv_if_ge (tgt := 98) hx hb d_O_isProduct_25 (by decide) (fun hc => ?_) (fun hc => ?_)
          · exact absurd ((lN_lt63 (by omega) (by omega)).mpr (by omega)) (fun q => cm_ge hc q)
          · refine lv_aload_n hx hb d_O_isProduct_28 rfl (lv_at hl 0 rfl) ?_
            refine va_get (D := (dC, dI)) (ci := 4) (v := .long (lN p)) (C := R_O) (T := F_O) (N := 17) hx hb hts in_O hown hK hP 0 rfl rfl 1 (by decide) (hts _ kw_529) (fun _ h9 => h9) rfl d_O_isProduct_29 ?_
            refine lv_lstore (lv' := [(4, .long (lN p)), (0, .ref o0), (1, .int (nI k)), (2, .long (lN b))]) hx hb d_O_isProduct_32 hl (by decide) rfl (fun ls hl => ?_)
            refine lv_aload_n hx hb d_O_isProduct_34 rfl (lv_at hl 1 rfl) ?_
            refine va_get (D := (dC, dI)) (ci := 4) (v := .int (nI n)) (C := R_O) (T := F_O) (N := 17) hx hb hts in_O hown hK hP 0 rfl rfl 2 (by decide) (hts _ kw_530) (fun _ h9 => h9) rfl d_O_isProduct_35 ?_
            refine lv_istore (lv' := [(6, .int (nI n)), (4, .long (lN p)), (0, .ref o0), (1, .int (nI k)), (2, .long (lN b))]) hx hb d_O_isProduct_38 hl (by decide) rfl (fun ls hl => ?_)
            have e9 : (nI n) = (jm (k + (n + 1 - k))) := by rw [show k + (n + 1 - k) = n + 1 by omega, jm_succ]
            have hl : lv_has ls 7 [(6, .int (jm (k + (n + 1 - k)))), (4, .long (lN p)), (0, .ref o0), (1, .int (nI k)), (2, .long (lN b))] := by rw [← e9]; exact hl
            have hl := lv_sub (l' := [(0, .ref o0), (1, .int (nI k)), (2, .long (lN b)), (4, .long (lN p)), (6, .int (jm (k + (n + 1 - k))))]) hl [2, 3, 4, 1, 0] rfl
            exact red (n + 1 - k) p (by omega) (by rw [show k + (n + 1 - k) = n + 1 by omega]; exact hm.2.2.2.1) (px_cg_refl _ _) ls hl
      refine lv_iconst (v := nI 2) hx hb d_O_isProduct_2 (by decide) ?_
      refine lv_iload_n hx hb d_O_isProduct_3 rfl (lv_at hl 1 rfl) ?_
      refine lv_imul hx hb d_O_isProduct_4 ?_
      refine lv_topi (nm_r (show _ = nI (2 * k) from pk_mul 2 k) ?_)
      refine lv_aload_n hx hb d_O_isProduct_5 rfl (lv_at hl 0 rfl) ?_
      refine va_get (D := (dC, dI)) (ci := 4) (v := .int (nI n)) (C := R_O) (T := F_O) (N := 17) hx hb hts in_O hown hK hP 0 rfl rfl 2 (by decide) (hts _ kw_530) (fun _ h9 => h9) rfl d_O_isProduct_6 ?_
      refine lv_icmp_gt (tgt := 104) hx hb d_O_isProduct_9 (by decide) (fun hc => ?_) (fun hc => ?_)
      · exact absurd ((nI_ltI (by omega) (by omega)).mp hc) (by omega)
      · refine lv_lconst (v := lN 1) hx hb d_O_isProduct_12 (by decide) ?_
        refine lv_iload_n hx hb d_O_isProduct_13 rfl (lv_at hl 1 rfl) ?_
        refine lv_lshl (v := lN (1 * 2 ^ k)) hx hb d_O_isProduct_14 (wb_shl 1 (by omega)) ?_
        refine lv_topl (nm_r (show _ = lN (2 ^ k) from by rw [Nat.one_mul]) ?_)
        refine lv_lconst (v := lN 1) hx hb d_O_isProduct_15 (by decide) ?_
        refine lv_ladd hx hb d_O_isProduct_16 ?_
        refine lv_topl (nm_r (show _ = lN (2 ^ k + 1) from lN_add _ 1) ?_)
        refine lv_lstore_n (lv' := [(2, .long (lN (2 ^ k + 1))), (0, .ref o0), (1, .int (nI k))]) hx hb d_O_isProduct_17 rfl hl (by decide) rfl (fun ls hl => ?_)
        have hl := lv_sub (l' := [(0, .ref o0), (1, .int (nI k)), (2, .long (lN (2 ^ k + 1)))]) hl [1, 2, 0] rfl
        exact mid (2 ^ k / 2) (2 ^ k + 1) (by omega) (by omega) (by omega) (nd_s hnd) ls hl
  refine lv_iconst (v := nI 1) hx hb d_O_isProduct_0 (by decide) ?_
  refine lv_istore_n (lv' := [(1, .int (nI 1)), (0, .ref o0)]) hx hb d_O_isProduct_1 rfl hl (by decide) rfl (fun ls hl => ?_)
  have hl := lv_sub (l' := [(0, .ref o0), (1, .int (nI 1))]) hl [1, 0] rfl
  exact loop (n / 2) 1 rfl (by decide) (fun k' b' g1_ _ _ _ g5_ => absurd g5_ (by omega)) ls hl
set_option maxHeartbeats 4000000 in
set_option maxRecDepth 100000 in
theorem c_O_irreducible (l : Launch) (dC : Nat → ClassId) (dI : Nat → Nat → Nat) (cI cL : ClassId) (sz : Nat) (o0 g1 g2 g3 g4 g5 g6 g7 g8 : Nat) (fl p n vr ir od cc gc oc : Nat) (hm : md p n) (hir : ir = 0 ∨ (ir = 1 ∧ ¬ px_ir p) ∨ (ir = 2 ∧ px_ir p)) : Met l y_O_irreducible w_O_irreducible ({ frames := 1, cells := 0, slots := 0, locals := 26 } : Room) (va_Pc [.ref o0] (wq_W (dC, dI) classes [(o0, .inr (4, [.int (nI fl), .long (lN p), .int (nI n), .long (lN vr), .int (nI ir), .long (lN od), .int (nI cc), .ref g1, .int (nI gc), .ref g2, .ref g3, .ref g4, .int (nI oc), .ref g5, .ref g6, .ref g7, .ref g8]))] [(cI, .int), (cL, .long)] sz)) (va_Qi (fun (r : Int32) (u : Nat) => (u = 1 ∧ ¬ px_ir p ∧ r = 0) ∨ (u = 2 ∧ px_ir p ∧ r = 1)) (fun (u : Nat) t => wq_B (dC, dI) classes [(cI, .int), (cL, .long)] (va_A [(o0, .inr (4, [.int (nI fl), .long (lN p), .int (nI n), .long (lN vr), .int (nI ir), .long (lN od), .int (nI cc), .ref g1, .int (nI gc), .ref g2, .ref g3, .ref g4, .int (nI oc), .ref g5, .ref g6, .ref g7, .ref g8]))] sz) [(o0, .inr (4, [.int (nI 0), .long (lN p), .int (nI n), .long (lN vr), .int (nI u), .long (lN od), .int (nI cc), .ref g1, .int (nI gc), .ref g2, .ref g3, .ref g4, .int (nI oc), .ref g5, .ref g6, .ref g7, .ref g8]))] t) (va_A [(o0, .inr (4, [.int (nI fl), .long (lN p), .int (nI n), .long (lN vr), .int (nI ir), .long (lN od), .int (nI cc), .ref g1, .int (nI gc), .ref g2, .ref g3, .ref g4, .int (nI oc), .ref g5, .ref g6, .ref g7, .ref g8]))] sz)) 0 0 (va_A [(o0, .inr (4, [.int (nI fl), .long (lN p), .int (nI n), .long (lN vr), .int (nI ir), .long (lN od), .int (nI cc), .ref g1, .int (nI gc), .ref g2, .ref g3, .ref g4, .int (nI oc), .ref g5, .ref g6, .ref g7, .ref g8]))] sz) := by
  refine Met.ofW (cc := b_O_irreducible) (maxL := 1) (ret := (Option.some Jvm.ClassFile.FieldType.boolean)) (by decide) rfl ?_
  intro pg en st mm ar bw me co s₁ B hml hv
  obtain ⟨rfl, hsz, hP, hK, hD0, hN⟩ := hv
  have hx := B.exec
  have hb := B.bytes
  have hr := B.returns
  have hlocks := B.notSynchronized
  have hts0 := atoms_spec (ws := w_O_irreducible) B.pre
  have hts : ∀ w ∈ gw, w.before _ st = true := fun w h => hts0 w (List.mem_cons_of_mem _ h)
  have hown : st.vm.findClass R_O = some mm.cls := findClass_of_methodNamed B.named
  subst hsz
  have hD := hD0.self (sz := st.heap.size)
  generalize hAe : va_A [(o0, .inr (4, [.int (nI fl), .long (lN p), .int (nI n), .long (lN vr), .int (nI ir), .long (lN od), .int (nI cc), .ref g1, .int (nI gc), .ref g2, .ref g3, .ref g4, .int (nI oc), .ref g5, .ref g6, .ref g7, .ref g8]))] st.heap.size = A at hD ⊢
  have hA : ∀ q : Nat, st.heap.size ≤ q → A q := fun q h => by rw [← hAe]; exact Or.inr h
  have hS : va_S A st.heap st.heap [] := va_S.rf
  have hl := lv_entry ([.ref o0]) (n := 1) (Nat.le_of_ble_eq_true rfl)
  rw [lg_entry_eq]
  generalize (lg_sl ([.ref o0]) ++ List.replicate (1 - (lg_sl ([.ref o0])).length) Slot.unset).toArray = ls at hl ⊢
  have hl : lv_has ls 1 [(0, .ref o0)] := hl
  refine lv_aload_n hx hb d_O_irreducible_0 rfl (lv_at hl 0 rfl) ?_
  refine lv_iconst (v := nI 0) hx hb d_O_irreducible_1 (by decide) ?_
  refine va_put (D := (dC, dI)) (ci := 4) (v := .int (nI 0)) (ty := .int) (C := R_O) (T := F_O) (N := 17) hx hb hts in_O t_O t_O_ok n_O hown hK hP hD hS 0 rfl rfl 0 (by decide) (hts _ kw_528) (fun _ h9 => h9) rfl (by decide +kernel) rfl rfl (Nat.le_of_ble_eq_true rfl) d_O_irreducible_2 (fun H locs hP hD hS => ?_)
  have hP : va_P (dC, dI) classes [(o0, .inr (4, [.int (nI 0), .long (lN p), .int (nI n), .long (lN vr), .int (nI ir), .long (lN od), .int (nI cc), .ref g1, .int (nI gc), .ref g2, .ref g3, .ref g4, .int (nI oc), .ref g5, .ref g6, .ref g7, .ref g8]))] H := hP
  have hD : va_D A [(o0, .inr (4, [.int (nI 0), .long (lN p), .int (nI n), .long (lN vr), .int (nI ir), .long (lN od), .int (nI cc), .ref g1, .int (nI gc), .ref g2, .ref g3, .ref g4, .int (nI oc), .ref g5, .ref g6, .ref g7, .ref g8]))] := hD
  refine lv_aload_n hx hb d_O_irreducible_5 rfl (lv_at hl 0 rfl) ?_
  refine va_get (D := (dC, dI)) (ci := 4) (v := .int (nI ir)) (C := R_O) (T := F_O) (N := 17) hx hb hts in_O hown hK hP 0 rfl rfl 4 (by decide) (hts _ kw_532) (fun _ h9 => h9) rfl d_O_irreducible_6 ?_
  rcases hir with e | ⟨e, hir⟩ | ⟨e, hir⟩
  · subst e
    refine lv_if_ne (tgt := 28) hx hb d_O_irreducible_9 (by decide) (fun hc => absurd hc (fun z => z rfl)) (fun _ => ?_)
    refine lv_aload_n hx hb d_O_irreducible_12 rfl (lv_at hl 0 rfl) ?_
    refine lv_aload_n hx hb d_O_irreducible_13 rfl (lv_at hl 0 rfl) ?_
    refine vp_callSi (va_Run.run (va_runV (As := []) (rest := [.ref o0]) ⟨hx, hb, hml, hown, hts⟩ (c_O_isProduct l dC dI cI cL o0 g1 g2 g3 g4 g5 g6 g7 g8 0 p n vr 0 od cc gc oc hm) (cwV 0 hts (gi_V kw_636 kw_638 ks_O_isProduct kw_5 gi_O_isProduct) rfl rfl rfl ⟨rfl, by decide, by decide, by decide⟩ ⟨Nat.le_of_ble_eq_true rfl, Nat.le_of_ble_eq_true rfl⟩) (wq_preVR hP hK hN [0] rfl (q0 := 0) (ci := 4) rfl rfl rfl) rfl rfl hl.1 rfl (lv_room (Nat.le_of_ble_eq_true rfl)) d_O_irreducible_14 ⟨Nat.le_of_ble_eq_true rfl, Nat.le_of_ble_eq_true rfl⟩)) (fun r hq => ?_)
    rcases hq with ⟨rfl, hir⟩ | ⟨rfl, hir⟩
    · refine lv_if_eq (tgt := 24) hx hb d_O_irreducible_17 (by decide) (fun hc => absurd hc (show ¬ (1 : Int32) = 0 from by decide)) (fun _ => ?_)
      refine lv_iconst (v := nI 1) hx hb d_O_irreducible_20 (by decide) ?_
      refine lv_goto (tgt := 25) hx hb d_O_irreducible_21 (by decide) ?_
      refine va_put (D := (dC, dI)) (ci := 4) (v := .int (nI 1)) (ty := .int) (C := R_O) (T := F_O) (N := 17) hx hb hts in_O t_O t_O_ok n_O hown hK hP hD hS 0 rfl rfl 4 (by decide) (hts _ kw_532) (fun _ h9 => h9) rfl (by decide +kernel) rfl rfl (Nat.le_of_ble_eq_true rfl) d_O_irreducible_25 (fun H locs hP hD hS => ?_)
      have hP : va_P (dC, dI) classes [(o0, .inr (4, [.int (nI 0), .long (lN p), .int (nI n), .long (lN vr), .int (nI 1), .long (lN od), .int (nI cc), .ref g1, .int (nI gc), .ref g2, .ref g3, .ref g4, .int (nI oc), .ref g5, .ref g6, .ref g7, .ref g8]))] H := hP
      have hD : va_D A [(o0, .inr (4, [.int (nI 0), .long (lN p), .int (nI n), .long (lN vr), .int (nI 1), .long (lN od), .int (nI cc), .ref g1, .int (nI gc), .ref g2, .ref g3, .ref g4, .int (nI oc), .ref g5, .ref g6, .ref g7, .ref g8]))] := hD
      refine lv_aload_n hx hb d_O_irreducible_28 rfl (lv_at hl 0 rfl) ?_
      refine va_get (D := (dC, dI)) (ci := 4) (v := .int (nI 1)) (C := R_O) (T := F_O) (N := 17) hx hb hts in_O hown hK hP 0 rfl rfl 4 (by decide) (hts _ kw_532) (fun _ h9 => h9) rfl d_O_irreducible_29 ?_
      refine lv_iconst (v := nI 2) hx hb d_O_irreducible_32 (by decide) ?_
      refine lv_icmp_ne (tgt := 40) hx hb d_O_irreducible_33 (by decide) (fun _ => ?_) (fun hc => absurd hc (show ¬ nI 1 = nI 2 from by decide))
      refine lv_iconst (v := nI 0) hx hb d_O_irreducible_40 (by decide) ?_
      have hP := hP.sub (ws' := [(o0, .inr (4, [.int (nI 0), .long (lN p), .int (nI n), .long (lN vr), .int (nI 1), .long (lN od), .int (nI cc), .ref g1, .int (nI gc), .ref g2, .ref g3, .ref g4, .int (nI oc), .ref g5, .ref g6, .ref g7, .ref g8]))]) [0] rfl
      have hD := hD.sub (ws' := [(o0, .inr (4, [.int (nI 0), .long (lN p), .int (nI n), .long (lN vr), .int (nI 1), .long (lN od), .int (nI cc), .ref g1, .int (nI gc), .ref g2, .ref g3, .ref g4, .int (nI oc), .ref g5, .ref g6, .ref g7, .ref g8]))]) [0] (by decide) rfl
      exact W.zret (v := nI 0) hx hb hr (rfl) (fun t9 ht hW => ⟨⟨nI 0, 1, rfl, Or.inl ⟨rfl, hir, rfl⟩, by rw [ht]; exact hP, va_K.moved hW.alike hK, hD⟩, hS.F ht⟩) hS.2.2 d_O_irreducible_41
    · refine lv_if_eq (tgt := 24) hx hb d_O_irreducible_17 (by decide) (fun _ => ?_) (fun hc => absurd hc (fun z => z rfl))
      refine lv_iconst (v := nI 2) hx hb d_O_irreducible_24 (by decide) ?_
      refine va_put (D := (dC, dI)) (ci := 4) (v := .int (nI 2)) (ty := .int) (C := R_O) (T := F_O) (N := 17) hx hb hts in_O t_O t_O_ok n_O hown hK hP hD hS 0 rfl rfl 4 (by decide) (hts _ kw_532) (fun _ h9 => h9) rfl (by decide +kernel) rfl rfl (Nat.le_of_ble_eq_true rfl) d_O_irreducible_25 (fun H locs hP hD hS => ?_)
      have hP : va_P (dC, dI) classes [(o0, .inr (4, [.int (nI 0), .long (lN p), .int (nI n), .long (lN vr), .int (nI 2), .long (lN od), .int (nI cc), .ref g1, .int (nI gc), .ref g2, .ref g3, .ref g4, .int (nI oc), .ref g5, .ref g6, .ref g7, .ref g8]))] H := hP
      have hD : va_D A [(o0, .inr (4, [.int (nI 0), .long (lN p), .int (nI n), .long (lN vr), .int (nI 2), .long (lN od), .int (nI cc), .ref g1, .int (nI gc), .ref g2, .ref g3, .ref g4, .int (nI oc), .ref g5, .ref g6, .ref g7, .ref g8]))] := hD
      refine lv_aload_n hx hb d_O_irreducible_28 rfl (lv_at hl 0 rfl) ?_
      refine va_get (D := (dC, dI)) (ci := 4) (v := .int (nI 2)) (C := R_O) (T := F_O) (N := 17) hx hb hts in_O hown hK hP 0 rfl rfl 4 (by decide) (hts _ kw_532) (fun _ h9 => h9) rfl d_O_irreducible_29 ?_
      refine lv_iconst (v := nI 2) hx hb d_O_irreducible_32 (by decide) ?_
      refine lv_icmp_ne (tgt := 40) hx hb d_O_irreducible_33 (by decide) (fun hc => absurd hc (fun z => z rfl)) (fun _ => ?_)
      refine lv_iconst (v := nI 1) hx hb d_O_irreducible_36 (by decide) ?_
      refine lv_goto (tgt := 41) hx hb d_O_irreducible_37 (by decide) ?_
      have hP := hP.sub (ws' := [(o0, .inr (4, [.int (nI 0), .long (lN p), .int (nI n), .long (lN vr), .int (nI 2), .long (lN od), .int (nI cc), .ref g1, .int (nI gc), .ref g2, .ref g3, .ref g4, .int (nI oc), .ref g5, .ref g6, .ref g7, .ref g8]))]) [0] rfl
      have hD := hD.sub (ws' := [(o0, .inr (4, [.int (nI 0), .long (lN p), .int (nI n), .long (lN vr), .int (nI 2), .long (lN od), .int (nI cc), .ref g1, .int (nI gc), .ref g2, .ref g3, .ref g4, .int (nI oc), .ref g5, .ref g6, .ref g7, .ref g8]))]) [0] (by decide) rfl
      exact W.zret (v := nI 1) hx hb hr (rfl) (fun t9 ht hW => ⟨⟨nI 1, 2, rfl, Or.inr ⟨rfl, hir, rfl⟩, by rw [ht]; exact hP, va_K.moved hW.alike hK, hD⟩, hS.F ht⟩) hS.2.2 d_O_irreducible_41
  · subst e
    refine lv_if_ne (tgt := 28) hx hb d_O_irreducible_9 (by decide) (fun _ => ?_) (fun hc => absurd hc (show ¬ nI 1 = 0 from by decide))
    refine lv_aload_n hx hb d_O_irreducible_28 rfl (lv_at hl 0 rfl) ?_
    refine va_get (D := (dC, dI)) (ci := 4) (v := .int (nI 1)) (C := R_O) (T := F_O) (N := 17) hx hb hts in_O hown hK hP 0 rfl rfl 4 (by decide) (hts _ kw_532) (fun _ h9 => h9) rfl d_O_irreducible_29 ?_
    refine lv_iconst (v := nI 2) hx hb d_O_irreducible_32 (by decide) ?_
    refine lv_icmp_ne (tgt := 40) hx hb d_O_irreducible_33 (by decide) (fun _ => ?_) (fun hc => absurd hc (show ¬ nI 1 = nI 2 from by decide))
    refine lv_iconst (v := nI 0) hx hb d_O_irreducible_40 (by decide) ?_
    have hP := hP.sub (ws' := [(o0, .inr (4, [.int (nI 0), .long (lN p), .int (nI n), .long (lN vr), .int (nI 1), .long (lN od), .int (nI cc), .ref g1, .int (nI gc), .ref g2, .ref g3, .ref g4, .int (nI oc), .ref g5, .ref g6, .ref g7, .ref g8]))]) [0] rfl
    have hD := hD.sub (ws' := [(o0, .inr (4, [.int (nI 0), .long (lN p), .int (nI n), .long (lN vr), .int (nI 1), .long (lN od), .int (nI cc), .ref g1, .int (nI gc), .ref g2, .ref g3, .ref g4, .int (nI oc), .ref g5, .ref g6, .ref g7, .ref g8]))]) [0] (by decide) rfl
    exact W.zret (v := nI 0) hx hb hr (rfl) (fun t9 ht hW => ⟨⟨nI 0, 1, rfl, Or.inl ⟨rfl, hir, rfl⟩, by rw [ht]; exact hP, va_K.moved hW.alike hK, hD⟩, hS.F ht⟩) hS.2.2 d_O_irreducible_41
  · subst e
    refine lv_if_ne (tgt := 28) hx hb d_O_irreducible_9 (by decide) (fun _ => ?_) (fun hc => absurd hc (show ¬ nI 2 = 0 from by decide))
    refine lv_aload_n hx hb d_O_irreducible_28 rfl (lv_at hl 0 rfl) ?_
    refine va_get (D := (dC, dI)) (ci := 4) (v := .int (nI 2)) (C := R_O) (T := F_O) (N := 17) hx hb hts in_O hown hK hP 0 rfl rfl 4 (by decide) (hts _ kw_532) (fun _ h9 => h9) rfl d_O_irreducible_29 ?_
    refine lv_iconst (v := nI 2) hx hb d_O_irreducible_32 (by decide) ?_
    refine lv_icmp_ne (tgt := 40) hx hb d_O_irreducible_33 (by decide) (fun hc => absurd hc (fun z => z rfl)) (fun _ => ?_)
    refine lv_iconst (v := nI 1) hx hb d_O_irreducible_36 (by decide) ?_
    refine lv_goto (tgt := 41) hx hb d_O_irreducible_37 (by decide) ?_
    have hP := hP.sub (ws' := [(o0, .inr (4, [.int (nI 0), .long (lN p), .int (nI n), .long (lN vr), .int (nI 2), .long (lN od), .int (nI cc), .ref g1, .int (nI gc), .ref g2, .ref g3, .ref g4, .int (nI oc), .ref g5, .ref g6, .ref g7, .ref g8]))]) [0] rfl
    have hD := hD.sub (ws' := [(o0, .inr (4, [.int (nI 0), .long (lN p), .int (nI n), .long (lN vr), .int (nI 2), .long (lN od), .int (nI cc), .ref g1, .int (nI gc), .ref g2, .ref g3, .ref g4, .int (nI oc), .ref g5, .ref g6, .ref g7, .ref g8]))]) [0] (by decide) rfl
    exact W.zret (v := nI 1) hx hb hr (rfl) (fun t9 ht hW => ⟨⟨nI 1, 2, rfl, Or.inr ⟨rfl, hir, rfl⟩, by rw [ht]; exact hP, va_K.moved hW.alike hK, hD⟩, hS.F ht⟩) hS.2.2 d_O_irreducible_41
