/-! contracts of ShiftSignatures: polynomials, registers, circuits built; laid by a program -/
theorem md_jm {p n : Nat} (h : md p n) : jm (blen p) = nI n := by
  rw [blen_pos (md_ne h), md_lg h, jm_succ]
theorem md_odd {p n : Nat} (h : md p n) : p % 2 = 1 := h.2.2.2.2
theorem md_of {p d : Nat} (hd : blen p = d + 1) (h1 : 1 ≤ d) (h2 : d ≤ 32) (ho : p % 2 = 1) : md p d := by
  have hp : p ≠ 0 := fun z => by rw [z, blen_0] at hd; omega
  have hl : p.log2 = d := by rw [blen_pos hp] at hd; omega
  have := Nat.log2_self_le hp
  have h3 := Nat.lt_log2_self (n := p)
  rw [hl] at this h3
  exact ⟨h1, h2, this, h3, ho⟩
theorem pr_2 : ∀ q ∈ pr_T, 2 ≤ q := by decide +kernel
theorem nI_5 {kk : Nat} (h : kk < 5) (e : nI kk = nI 5) : False := (by decide +kernel : ∀ k, k < 5 → nI k ≠ nI 5) kk h e
set_option maxHeartbeats 4000000 in
set_option maxRecDepth 100000 in
theorem c_M_reducedY (l : Launch) (dC : Nat → ClassId) (dI : Nat → Nat → Nat) (cI cL : ClassId) (h0 p n x0 a : Nat) (hm : md p n) (ha : a < 2 ^ 64) : Met l y_M_reduced w_M_reduced ({ frames := 4, cells := 0, slots := 0, locals := 91 } : Room) (va_Pc [.ref h0, .long (lN a)] (wq_R (dC, dI) classes [(h0, .inr (1, [.long (lN p), .int (nI n), .long (lN x0)]))] [(cI, .int), (cL, .long)])) (vp_Sl (fun r => r = lN (px_r p a))) 0 0 (fun _ => False) := by
  refine Met.ofW (cc := b_M_reduced) (maxL := 3) (ret := (Option.some Jvm.ClassFile.FieldType.long)) (by decide) rfl ?_
  intro pg en st mm ar bw me co s₁ B hml hv
  obtain ⟨rfl, hP, hK, hN⟩ := hv
  have hx := B.exec
  have hb := B.bytes
  have hr := B.returns
  have hlocks := B.notSynchronized
  have hts0 := atoms_spec (ws := w_M_reduced) B.pre
  have hts : ∀ w ∈ gw, w.before _ st = true := fun w h => hts0 w (List.mem_cons_of_mem _ h)
  have hown : st.vm.findClass R_M = some mm.cls := findClass_of_methodNamed B.named
  have hl := lv_entry ([.ref h0, .long (lN a)]) (n := 3) (Nat.le_of_ble_eq_true rfl)
  rw [lg_entry_eq]
  generalize (lg_sl ([.ref h0, .long (lN a)]) ++ List.replicate (3 - (lg_sl ([.ref h0, .long (lN a)])).length) Slot.unset).toArray = ls at hl ⊢
  have hl : lv_has ls 3 [(0, .ref h0), (1, .long (lN a))] := hl
  refine lv_lload_n hx hb d_M_reduced_0 rfl (lv_at hl 1 rfl) ?_
  refine lv_aload_n hx hb d_M_reduced_1 rfl (lv_at hl 0 rfl) ?_
  refine va_get (D := (dC, dI)) (ci := 1) (v := .long (lN p)) (C := R_M) (T := F_M) (N := 3) hx hb hts in_M hown hK hP 0 rfl rfl 0 (by decide) (hts _ kw_29) (fun _ h9 => h9) rfl d_M_reduced_2 ?_
  refine vp_callSl (va_Run.run (va_runS (As := [.long (lN a), .long (lN p)]) (rest := []) ⟨hx, hb, hml, hown, hts⟩ (c_M_remainder l a p ha (md_ne hm) (md_lt hm)) (va_cwS 2 hts (gi_S kw_118 kw_119 kw_2 gi_M_remainder) rfl rfl rfl ⟨by decide, by decide, by decide⟩ ⟨Nat.le_of_ble_eq_true rfl, Nat.le_of_ble_eq_true rfl⟩) wq_preS0 rfl rfl hl.1 rfl (lv_room (Nat.le_of_ble_eq_true rfl)) d_M_reduced_5 ⟨Nat.le_of_ble_eq_true rfl, Nat.le_of_ble_eq_true rfl⟩)) (fun r hq => ?_)
  subst hq
  exact W.lret (v := lN (px_r p a)) hx hb hr (fun t ht hW => ⟨lN (px_r p a), rfl, rfl, ht⟩) (fun _ h => nomatch h) d_M_reduced_8
set_option maxHeartbeats 4000000 in
set_option maxRecDepth 100000 in
theorem c_M_become (l : Launch) (dC : Nat → ClassId) (dI : Nat → Nat → Nat) (cI cL : ClassId) (sz : Nat) (h0 p0 n0 x0 p n : Nat) (hm : md p n) : Met l y_M_become w_M_become ({ frames := 5, cells := 0, slots := 0, locals := 113 } : Room) (va_Pc [.ref h0, .long (lN p)] (wq_W (dC, dI) classes [(h0, .inr (1, [.long (lN p0), .int (nI n0), .long (lN x0)]))] [(cI, .int), (cL, .long)] sz)) (va_Qv (fun (u : Unit) => True) (fun (u : Unit) t => wq_B (dC, dI) classes [(cI, .int), (cL, .long)] (va_A [(h0, .inr (1, [.long (lN p0), .int (nI n0), .long (lN x0)]))] sz) [(h0, .inr (1, [.long (lN p), .int (nI n), .long (lN (px_r p 2))]))] t) (va_A [(h0, .inr (1, [.long (lN p0), .int (nI n0), .long (lN x0)]))] sz)) 0 0 (va_A [(h0, .inr (1, [.long (lN p0), .int (nI n0), .long (lN x0)]))] sz) := by
  refine Met.ofW (cc := b_M_become) (maxL := 3) (ret := (Option.none : Option Jvm.ClassFile.FieldType)) (by decide) rfl ?_
  intro pg en st mm ar bw me co s₁ B hml hv
  obtain ⟨rfl, hsz, hP, hK, hD0, hN⟩ := hv
  have hx := B.exec
  have hb := B.bytes
  have hr := B.returns
  have hlocks := B.notSynchronized
  have hts0 := atoms_spec (ws := w_M_become) B.pre
  have hts : ∀ w ∈ gw, w.before _ st = true := fun w h => hts0 w (List.mem_cons_of_mem _ h)
  have hown : st.vm.findClass R_M = some mm.cls := findClass_of_methodNamed B.named
  subst hsz
  have hD := hD0.self (sz := st.heap.size)
  generalize hAe : va_A [(h0, .inr (1, [.long (lN p0), .int (nI n0), .long (lN x0)]))] st.heap.size = A at hD ⊢
  have hA : ∀ q : Nat, st.heap.size ≤ q → A q := fun q h => by rw [← hAe]; exact Or.inr h
  have hS : va_S A st.heap st.heap [] := va_S.rf
  have hl := lv_entry ([.ref h0, .long (lN p)]) (n := 3) (Nat.le_of_ble_eq_true rfl)
  rw [lg_entry_eq]
  generalize (lg_sl ([.ref h0, .long (lN p)]) ++ List.replicate (3 - (lg_sl ([.ref h0, .long (lN p)])).length) Slot.unset).toArray = ls at hl ⊢
  have hl : lv_has ls 3 [(0, .ref h0), (1, .long (lN p))] := hl
  refine lv_aload_n hx hb d_M_become_0 rfl (lv_at hl 0 rfl) ?_
  refine lv_lload_n hx hb d_M_become_1 rfl (lv_at hl 1 rfl) ?_
  refine va_put (D := (dC, dI)) (ci := 1) (v := .long (lN p)) (ty := .long) (C := R_M) (T := F_M) (N := 3) hx hb hts in_M t_M t_M_ok n_M hown hK hP hD hS 0 rfl rfl 0 (by decide) (hts _ kw_29) (fun _ h9 => h9) rfl (by decide +kernel) rfl rfl (Nat.le_of_ble_eq_true rfl) d_M_become_2 (fun H locs hP hD hS => ?_)
  have hP : va_P (dC, dI) classes [(h0, .inr (1, [.long (lN p), .int (nI n0), .long (lN x0)]))] H := hP
  have hD : va_D A [(h0, .inr (1, [.long (lN p), .int (nI n0), .long (lN x0)]))] := hD
  refine lv_aload_n hx hb d_M_become_5 rfl (lv_at hl 0 rfl) ?_
  refine lv_lload_n hx hb d_M_become_6 rfl (lv_at hl 1 rfl) ?_
  refine vp_callSi (va_Run.run (va_runS (As := [.long (lN p)]) (rest := [.ref h0]) ⟨hx, hb, hml, hown, hts⟩ (c_M_degreeOf l p (md_lt hm)) (va_cwS 1 hts (gi_S kw_121 kw_122 kw_2 gi_M_degreeOf) rfl rfl rfl ⟨by decide, by decide, by decide⟩ ⟨Nat.le_of_ble_eq_true rfl, Nat.le_of_ble_eq_true rfl⟩) wq_preS0 rfl rfl hl.1 rfl (lv_room (Nat.le_of_ble_eq_true rfl)) d_M_become_7 ⟨Nat.le_of_ble_eq_true rfl, Nat.le_of_ble_eq_true rfl⟩)) (fun r hq => ?_)
  have hq : r = nI n := hq.trans (md_jm hm)
  subst hq
  refine va_put (D := (dC, dI)) (ci := 1) (v := .int (nI n)) (ty := .int) (C := R_M) (T := F_M) (N := 3) hx hb hts in_M t_M t_M_ok n_M hown hK hP hD hS 0 rfl rfl 1 (by decide) (hts _ kw_31) (fun _ h9 => h9) rfl (by decide +kernel) rfl rfl (Nat.le_of_ble_eq_true rfl) d_M_become_10 (fun H locs hP hD hS => ?_)
  have hP : va_P (dC, dI) classes [(h0, .inr (1, [.long (lN p), .int (nI n), .long (lN x0)]))] H := hP
  have hD : va_D A [(h0, .inr (1, [.long (lN p), .int (nI n), .long (lN x0)]))] := hD
  refine lv_aload_n hx hb d_M_become_13 rfl (lv_at hl 0 rfl) ?_
  refine lv_aload_n hx hb d_M_become_14 rfl (lv_at hl 0 rfl) ?_
  refine lv_ldc2 (v := lN 2) hx hb hown (hts _ kw_284) d_M_become_15 ?_
  refine vp_callSl (va_Run.run (va_runV (As := [.long (lN 2)]) (rest := [.ref h0]) ⟨hx, hb, hml, hown, hts⟩ (c_M_reducedY l dC dI cI cL h0 p n x0 2 hm (by decide)) (cwV 1 hts (gi_V kw_285 kw_116 ks_M_reduced kw_2 gi_M_reduced) rfl rfl rfl ⟨rfl, by decide, by decide, by decide⟩ ⟨Nat.le_of_ble_eq_true rfl, Nat.le_of_ble_eq_true rfl⟩) (wq_preVR hP hK hN [0] rfl (q0 := 0) (ci := 1) rfl rfl rfl) rfl rfl hl.1 rfl (lv_room (Nat.le_of_ble_eq_true rfl)) d_M_become_18 ⟨Nat.le_of_ble_eq_true rfl, Nat.le_of_ble_eq_true rfl⟩)) (fun r hq2 => ?_)
  subst hq2
  refine va_put (D := (dC, dI)) (ci := 1) (v := .long (lN (px_r p 2))) (ty := .long) (C := R_M) (T := F_M) (N := 3) hx hb hts in_M t_M t_M_ok n_M hown hK hP hD hS 0 rfl rfl 2 (by decide) (hts _ kw_34) (fun _ h9 => h9) rfl (by decide +kernel) rfl rfl (Nat.le_of_ble_eq_true rfl) d_M_become_21 (fun H locs hP hD hS => ?_)
  have hP : va_P (dC, dI) classes [(h0, .inr (1, [.long (lN p), .int (nI n), .long (lN (px_r p 2))]))] H := hP
  have hD : va_D A [(h0, .inr (1, [.long (lN p), .int (nI n), .long (lN (px_r p 2))]))] := hD
  have hP := hP.sub (ws' := [(h0, .inr (1, [.long (lN p), .int (nI n), .long (lN (px_r p 2))]))]) [0] rfl
  have hD := hD.sub (ws' := [(h0, .inr (1, [.long (lN p), .int (nI n), .long (lN (px_r p 2))]))]) [0] (by decide) rfl
  exact W.vret hx hb hr (fun t ht hW => ⟨⟨(), rfl, trivial, by rw [ht]; exact hP, va_K.moved hW.alike hK, hD⟩, hS.F ht⟩) hS.2.2 d_M_become_24
set_option maxHeartbeats 4000000 in
set_option maxRecDepth 100000 in
theorem c_S_residue (l : Launch) (dC : Nat → ClassId) (dI : Nat → Nat → Nat) (cI cL : ClassId) (s0 m0 c0 e0 q1 : Nat) (vr : Nat) (p n : Nat) (hm : md p n) (a : Nat) (ha : a < 2 ^ 64) : Met l y_S_residue w_S_residue ({ frames := 5, cells := 0, slots := 0, locals := 113 } : Room) (va_Pc [.ref s0, .long (lN a)] (wq_R (dC, dI) classes [(s0, .inr (0, [.ref m0, .ref c0, .ref e0, .ref q1, .long (lN vr)])), (m0, .inr (1, [.long (lN p), .int (nI n), .long (lN (px_r p 2))]))] [(cI, .int), (cL, .long)])) (vp_Sl (fun r => r = lN (px_r p a))) 0 0 (fun _ => False) := by
  refine Met.ofW (cc := b_S_residue) (maxL := 3) (ret := (Option.some Jvm.ClassFile.FieldType.long)) (by decide) rfl ?_
  intro pg en st mm ar bw me co s₁ B hml hv
  obtain ⟨rfl, hP, hK, hN⟩ := hv
  have hx := B.exec
  have hb := B.bytes
  have hr := B.returns
  have hlocks := B.notSynchronized
  have hts0 := atoms_spec (ws := w_S_residue) B.pre
  have hts : ∀ w ∈ gw, w.before _ st = true := fun w h => hts0 w (List.mem_cons_of_mem _ h)
  have hown : st.vm.findClass R_S = some mm.cls := findClass_of_methodNamed B.named
  have hl := lv_entry ([.ref s0, .long (lN a)]) (n := 3) (Nat.le_of_ble_eq_true rfl)
  rw [lg_entry_eq]
  generalize (lg_sl ([.ref s0, .long (lN a)]) ++ List.replicate (3 - (lg_sl ([.ref s0, .long (lN a)])).length) Slot.unset).toArray = ls at hl ⊢
  have hl : lv_has ls 3 [(0, .ref s0), (1, .long (lN a))] := hl
  refine lv_aload_n hx hb d_S_residue_0 rfl (lv_at hl 0 rfl) ?_
  refine va_get (D := (dC, dI)) (ci := 0) (v := .ref m0) (C := R_S) (T := F_S) (N := 5) hx hb hts in_S hown hK hP 0 rfl rfl 0 (by decide) (hts _ kw_94) (fun _ h9 => h9) rfl d_S_residue_1 ?_
  refine lv_lload_n hx hb d_S_residue_4 rfl (lv_at hl 1 rfl) ?_
  refine vp_callSl (va_Run.run (va_runVN (As := [.long (lN a)]) (rest := []) ⟨hx, hb, hml, hown, hts⟩ (c_M_reduced l dC dI cI cL m0 p n a hm ha) ⟨va_cnB 1 hts gi_M_reduced rfl rfl rfl (hN _ kw_114) (hts _ kw_2) ⟨by decide, by decide, by decide⟩ ⟨Nat.le_of_ble_eq_true rfl, Nat.le_of_ble_eq_true rfl⟩, hts _ kw_116, hts _ ks_M_reduced⟩ (wq_preVR hP hK hN [1] rfl (q0 := 1) (ci := 1) rfl rfl rfl) rfl rfl hl.1 rfl (lv_room (Nat.le_of_ble_eq_true rfl)) d_S_residue_5 ⟨Nat.le_of_ble_eq_true rfl, Nat.le_of_ble_eq_true rfl⟩)) (fun r hq => ?_)
  subst hq
  exact W.lret (v := lN (px_r p a)) hx hb hr (fun t ht hW => ⟨lN (px_r p a), rfl, rfl, ht⟩) (fun _ h => nomatch h) d_S_residue_8
set_option maxHeartbeats 4000000 in
set_option maxRecDepth 100000 in
theorem c_S_irreducible (l : Launch) (dC : Nat → ClassId) (dI : Nat → Nat → Nat) (cI cL : ClassId) (s0 m0 c0 e0 q1 : Nat) (vr : Nat) (p n : Nat) (hm : md p n) : Met l y_S_irreducible w_S_irreducible ({ frames := 6, cells := 0, slots := 0, locals := 144 } : Room) (va_Pc [.ref s0] (wq_R (dC, dI) classes [(s0, .inr (0, [.ref m0, .ref c0, .ref e0, .ref q1, .long (lN vr)])), (m0, .inr (1, [.long (lN p), .int (nI n), .long (lN (px_r p 2))]))] [(cI, .int), (cL, .long)])) (vp_Si (fun r => (r = 1 ∧ px_ir p) ∨ (r = 0 ∧ ¬ px_ir p))) 0 0 (fun _ => False) := by
  refine Met.ofW (cc := b_S_irreducible) (maxL := 1) (ret := (Option.some Jvm.ClassFile.FieldType.boolean)) (by decide) rfl ?_
  intro pg en st mm ar bw me co s₁ B hml hv
  obtain ⟨rfl, hP, hK, hN⟩ := hv
  have hx := B.exec
  have hb := B.bytes
  have hr := B.returns
  have hlocks := B.notSynchronized
  have hts0 := atoms_spec (ws := w_S_irreducible) B.pre
  have hts : ∀ w ∈ gw, w.before _ st = true := fun w h => hts0 w (List.mem_cons_of_mem _ h)
  have hown : st.vm.findClass R_S = some mm.cls := findClass_of_methodNamed B.named
  have hl := lv_entry ([.ref s0]) (n := 1) (Nat.le_of_ble_eq_true rfl)
  rw [lg_entry_eq]
  generalize (lg_sl ([.ref s0]) ++ List.replicate (1 - (lg_sl ([.ref s0])).length) Slot.unset).toArray = ls at hl ⊢
  have hl : lv_has ls 1 [(0, .ref s0)] := hl
  refine lv_aload_n hx hb d_S_irreducible_0 rfl (lv_at hl 0 rfl) ?_
  refine va_get (D := (dC, dI)) (ci := 0) (v := .ref m0) (C := R_S) (T := F_S) (N := 5) hx hb hts in_S hown hK hP 0 rfl rfl 0 (by decide) (hts _ kw_94) (fun _ h9 => h9) rfl d_S_irreducible_1 ?_
  refine vp_callSi (va_Run.run (va_runVN (As := []) (rest := []) ⟨hx, hb, hml, hown, hts⟩ (c_M_isIrreducible l dC dI cI cL m0 p n hm) ⟨va_cnB 0 hts gi_M_isIrreducible rfl rfl rfl (hN _ kw_135) (hts _ kw_2) ⟨by decide, by decide, by decide⟩ ⟨Nat.le_of_ble_eq_true rfl, Nat.le_of_ble_eq_true rfl⟩, hts _ kw_137, hts _ ks_M_isIrreducible⟩ (wq_preVR hP hK hN [1] rfl (q0 := 1) (ci := 1) rfl rfl rfl) rfl rfl hl.1 rfl (lv_room (Nat.le_of_ble_eq_true rfl)) d_S_irreducible_4 ⟨Nat.le_of_ble_eq_true rfl, Nat.le_of_ble_eq_true rfl⟩)) (fun r hq => ?_)
  rcases hq with ⟨rfl, hq⟩ | ⟨rfl, hq⟩
  · exact W.zret (v := 1) hx hb hr (rfl) (fun t ht hW => ⟨1, rfl, Or.inl ⟨rfl, hq⟩, ht⟩) (fun _ h => nomatch h) d_S_irreducible_7
  · exact W.zret (v := 0) hx hb hr (rfl) (fun t ht hW => ⟨0, rfl, Or.inr ⟨rfl, hq⟩, ht⟩) (fun _ h => nomatch h) d_S_irreducible_7
set_option maxHeartbeats 4000000 in
set_option maxRecDepth 100000 in
theorem c_S_primitive (l : Launch) (dC : Nat → ClassId) (dI : Nat → Nat → Nat) (cI cL : ClassId) (s0 m0 c0 e0 q1 : Nat) (vr : Nat) (p n : Nat) (hm : md p n) : Met l y_S_primitive w_S_primitive ({ frames := 6, cells := 0, slots := 0, locals := 160 } : Room) (va_Pc [.ref s0] (wq_P (dC, dI) classes [(s0, .inr (0, [.ref m0, .ref c0, .ref e0, .ref q1, .long (lN vr)])), (m0, .inr (1, [.long (lN p), .int (nI n), .long (lN (px_r p 2))]))] [(cI, .int), (cL, .long)])) (vp_Si (fun r => (r = 1 ∧ px_ord p (2 ^ n - 1)) ∨ (r = 0 ∧ ¬ px_ord p (2 ^ n - 1)))) 0 0 (fun _ => False) := by
  refine Met.ofW (cc := b_S_primitive) (maxL := 1) (ret := (Option.some Jvm.ClassFile.FieldType.boolean)) (by decide) rfl ?_
  intro pg en st mm ar bw me co s₁ B hml hv
  obtain ⟨rfl, ⟨hP, hK, hN⟩, hPr⟩ := hv
  have hx := B.exec
  have hb := B.bytes
  have hr := B.returns
  have hlocks := B.notSynchronized
  have hts0 := atoms_spec (ws := w_S_primitive) B.pre
  have hts : ∀ w ∈ gw, w.before _ st = true := fun w h => hts0 w (List.mem_cons_of_mem _ h)
  have hown : st.vm.findClass R_S = some mm.cls := findClass_of_methodNamed B.named
  have hl := lv_entry ([.ref s0]) (n := 1) (Nat.le_of_ble_eq_true rfl)
  rw [lg_entry_eq]
  generalize (lg_sl ([.ref s0]) ++ List.replicate (1 - (lg_sl ([.ref s0])).length) Slot.unset).toArray = ls at hl ⊢
  have hl : lv_has ls 1 [(0, .ref s0)] := hl
  refine lv_aload_n hx hb d_S_primitive_0 rfl (lv_at hl 0 rfl) ?_
  refine va_get (D := (dC, dI)) (ci := 0) (v := .ref m0) (C := R_S) (T := F_S) (N := 5) hx hb hts in_S hown hK hP 0 rfl rfl 0 (by decide) (hts _ kw_94) (fun _ h9 => h9) rfl d_S_primitive_1 ?_
  refine vp_callSi (va_Run.run (va_runVN (As := []) (rest := []) ⟨hx, hb, hml, hown, hts⟩ (c_M_isPrimitive l dC dI cI cL m0 p n hm) ⟨va_cnB 0 hts gi_M_isPrimitive rfl rfl rfl (hN _ kw_154) (hts _ kw_2) ⟨by decide, by decide, by decide⟩ ⟨Nat.le_of_ble_eq_true rfl, Nat.le_of_ble_eq_true rfl⟩, hts _ kw_156, hts _ ks_M_isPrimitive⟩ (wq_preVP hP hK hN hPr [1] rfl (q0 := 1) (ci := 1) rfl rfl rfl) rfl rfl hl.1 rfl (lv_room (Nat.le_of_ble_eq_true rfl)) d_S_primitive_4 ⟨Nat.le_of_ble_eq_true rfl, Nat.le_of_ble_eq_true rfl⟩)) (fun r hq => ?_)
  rcases hq with ⟨rfl, hq⟩ | ⟨rfl, hq⟩
  · exact W.zret (v := 1) hx hb hr (rfl) (fun t ht hW => ⟨1, rfl, Or.inl ⟨rfl, hq⟩, ht⟩) (fun _ h => nomatch h) d_S_primitive_7
  · exact W.zret (v := 0) hx hb hr (rfl) (fun t ht hW => ⟨0, rfl, Or.inr ⟨rfl, hq⟩, ht⟩) (fun _ h => nomatch h) d_S_primitive_7
set_option maxHeartbeats 4000000 in
set_option maxRecDepth 100000 in
theorem c_S_orderY (l : Launch) (dC : Nat → ClassId) (dI : Nat → Nat → Nat) (cI cL : ClassId) (s0 m0 c0 e0 q1 : Nat) (vr : Nat) (p n : Nat) (hm : md p n) (hn : n ≤ 18) : Met l y_S_order w_S_order ({ frames := 7, cells := 0, slots := 0, locals := 178 } : Room) (va_Pc [.ref s0] (wq_P (dC, dI) classes [(s0, .inr (0, [.ref m0, .ref c0, .ref e0, .ref q1, .long (lN vr)])), (m0, .inr (1, [.long (lN p), .int (nI n), .long (lN (px_r p 2))]))] [(cI, .int), (cL, .long)])) (vp_Sl (fun r => ∃ d, px_ord p d ∧ r = lN d)) 0 0 (fun _ => False) := by
  refine Met.ofW (cc := b_S_order) (maxL := 1) (ret := (Option.some Jvm.ClassFile.FieldType.long)) (by decide) rfl ?_
  intro pg en st mm ar bw me co s₁ B hml hv
  obtain ⟨rfl, ⟨hP, hK, hN⟩, hPr⟩ := hv
  have hx := B.exec
  have hb := B.bytes
  have hr := B.returns
  have hlocks := B.notSynchronized
  have hts0 := atoms_spec (ws := w_S_order) B.pre
  have hts : ∀ w ∈ gw, w.before _ st = true := fun w h => hts0 w (List.mem_cons_of_mem _ h)
  have hown : st.vm.findClass R_S = some mm.cls := findClass_of_methodNamed B.named
  have hl := lv_entry ([.ref s0]) (n := 1) (Nat.le_of_ble_eq_true rfl)
  rw [lg_entry_eq]
  generalize (lg_sl ([.ref s0]) ++ List.replicate (1 - (lg_sl ([.ref s0])).length) Slot.unset).toArray = ls at hl ⊢
  have hl : lv_has ls 1 [(0, .ref s0)] := hl
  refine lv_aload_n hx hb d_S_order_0 rfl (lv_at hl 0 rfl) ?_
  refine va_get (D := (dC, dI)) (ci := 0) (v := .ref m0) (C := R_S) (T := F_S) (N := 5) hx hb hts in_S hown hK hP 0 rfl rfl 0 (by decide) (hts _ kw_94) (fun _ h9 => h9) rfl d_S_order_1 ?_
  refine va_getN (D := (dC, dI)) (ci := 1) (v := .int (nI n)) (C := R_M) (T := F_M) (N := 3) hx hb hts in_M hown hK hP 1 rfl rfl 1 (by decide) (nw_use hN kw_33) (fun _ h9 => h9) rfl d_S_order_4 ?_
  refine lv_bipush (v := nI 18) hx hb d_S_order_7 (by decide) ?_
  refine lv_icmp_le (tgt := 16) hx hb d_S_order_9 (by decide) (fun _ => ?_) (fun hc => absurd hc (fun z => z ((nI_leI (by omega) (by decide)).mpr hn)))
  refine lv_aload_n hx hb d_S_order_16 rfl (lv_at hl 0 rfl) ?_
  refine va_get (D := (dC, dI)) (ci := 0) (v := .ref m0) (C := R_S) (T := F_S) (N := 5) hx hb hts in_S hown hK hP 0 rfl rfl 0 (by decide) (hts _ kw_94) (fun _ h9 => h9) rfl d_S_order_17 ?_
  refine lv_aload_n hx hb d_S_order_20 rfl (lv_at hl 0 rfl) ?_
  refine va_get (D := (dC, dI)) (ci := 0) (v := .ref m0) (C := R_S) (T := F_S) (N := 5) hx hb hts in_S hown hK hP 0 rfl rfl 0 (by decide) (hts _ kw_94) (fun _ h9 => h9) rfl d_S_order_21 ?_
  refine vp_callSl (va_Run.run (va_runVN (As := []) (rest := [.ref m0]) ⟨hx, hb, hml, hown, hts⟩ (c_M_multipleOfOrder l dC dI cI cL m0 p n hm hn) ⟨va_cnB 0 hts gi_M_multipleOfOrder rfl rfl rfl (hN _ kw_177) (hts _ kw_2) ⟨by decide, by decide, by decide⟩ ⟨Nat.le_of_ble_eq_true rfl, Nat.le_of_ble_eq_true rfl⟩, hts _ kw_179, hts _ ks_M_multipleOfOrder⟩ (wq_preVR hP hK hN [1] rfl (q0 := 1) (ci := 1) rfl rfl rfl) rfl rfl hl.1 rfl (lv_room (Nat.le_of_ble_eq_true rfl)) d_S_order_24 ⟨Nat.le_of_ble_eq_true rfl, Nat.le_of_ble_eq_true rfl⟩)) (fun r hq => ?_)
  obtain ⟨z, rfl, hz0, hz1, hz2, hz3⟩ := hq
  have hp18 : 2 ^ n ≤ 2 ^ 18 := Nat.pow_le_pow_right (by decide) hn
  refine vp_callSl (va_Run.run (va_runVN (As := [.long (lN z)]) (rest := []) ⟨hx, hb, hml, hown, hts⟩ (c_M_orderWithin l dC dI cI cL m0 p n z hm hz0 (by omega)) ⟨va_cnB 1 hts gi_M_orderWithin rfl rfl rfl (hN _ kw_188) (hts _ kw_2) ⟨by decide, by decide, by decide⟩ ⟨Nat.le_of_ble_eq_true rfl, Nat.le_of_ble_eq_true rfl⟩, hts _ kw_164, hts _ ks_M_orderWithin⟩ (wq_preVP hP hK hN hPr [1] rfl (q0 := 1) (ci := 1) rfl rfl rfl) rfl rfl hl.1 rfl (lv_room (Nat.le_of_ble_eq_true rfl)) d_S_order_27 ⟨Nat.le_of_ble_eq_true rfl, Nat.le_of_ble_eq_true rfl⟩)) (fun r2 hq2 => ?_)
  have hod := ow_ord (oo_iff hm) (l := pr_T) pr_2 hz0 (by omega) hz2 hz3
  subst hq2
  exact W.lret (v := lN (ow_A (oo p) pr_T z)) hx hb hr (fun t ht hW => ⟨lN (ow_A (oo p) pr_T z), rfl, ⟨_, hod, rfl⟩, ht⟩) (fun _ h => nomatch h) d_S_order_30
set_option maxHeartbeats 4000000 in
set_option maxRecDepth 100000 in
theorem c_S_orderN (l : Launch) (dC : Nat → ClassId) (dI : Nat → Nat → Nat) (cI cL : ClassId) (s0 m0 c0 e0 q1 : Nat) (vr : Nat) (p n : Nat) (hm : md p n) (hn : ¬ n ≤ 18) : Met l y_S_order w_S_order ({ frames := 7, cells := 0, slots := 0, locals := 178 } : Room) (va_Pc [.ref s0] (wq_R (dC, dI) classes [(s0, .inr (0, [.ref m0, .ref c0, .ref e0, .ref q1, .long (lN vr)])), (m0, .inr (1, [.long (lN p), .int (nI n), .long (lN (px_r p 2))]))] [(cI, .int), (cL, .long)])) (vp_Sl (fun r => r = -1)) 0 0 (fun _ => False) := by
  refine Met.ofW (cc := b_S_order) (maxL := 1) (ret := (Option.some Jvm.ClassFile.FieldType.long)) (by decide) rfl ?_
  intro pg en st mm ar bw me co s₁ B hml hv
  obtain ⟨rfl, hP, hK, hN⟩ := hv
  have hx := B.exec
  have hb := B.bytes
  have hr := B.returns
  have hlocks := B.notSynchronized
  have hts0 := atoms_spec (ws := w_S_order) B.pre
  have hts : ∀ w ∈ gw, w.before _ st = true := fun w h => hts0 w (List.mem_cons_of_mem _ h)
  have hown : st.vm.findClass R_S = some mm.cls := findClass_of_methodNamed B.named
  have hl := lv_entry ([.ref s0]) (n := 1) (Nat.le_of_ble_eq_true rfl)
  rw [lg_entry_eq]
  generalize (lg_sl ([.ref s0]) ++ List.replicate (1 - (lg_sl ([.ref s0])).length) Slot.unset).toArray = ls at hl ⊢
  have hl : lv_has ls 1 [(0, .ref s0)] := hl
  have hn2 := hm.2.1
  refine lv_aload_n hx hb d_S_order_0 rfl (lv_at hl 0 rfl) ?_
  refine va_get (D := (dC, dI)) (ci := 0) (v := .ref m0) (C := R_S) (T := F_S) (N := 5) hx hb hts in_S hown hK hP 0 rfl rfl 0 (by decide) (hts _ kw_94) (fun _ h9 => h9) rfl d_S_order_1 ?_
  refine va_getN (D := (dC, dI)) (ci := 1) (v := .int (nI n)) (C := R_M) (T := F_M) (N := 3) hx hb hts in_M hown hK hP 1 rfl rfl 1 (by decide) (nw_use hN kw_33) (fun _ h9 => h9) rfl d_S_order_4 ?_
  refine lv_bipush (v := nI 18) hx hb d_S_order_7 (by decide) ?_
  refine lv_icmp_le (tgt := 16) hx hb d_S_order_9 (by decide) (fun hc => absurd hc (fun z => hn ((nI_leI (by omega) (by decide)).mp z))) (fun _ => ?_)
  refine lv_ldc2 (v := (-1)) hx hb hown (hts _ kw_176) d_S_order_12 ?_
  exact W.lret (v := (-1)) hx hb hr (fun t ht hW => ⟨(-1), rfl, rfl, ht⟩) (fun _ h => nomatch h) d_S_order_15
set_option maxHeartbeats 4000000 in
set_option maxRecDepth 100000 in
theorem c_S_times (l : Launch) (dC : Nat → ClassId) (dI : Nat → Nat → Nat) (cI cL : ClassId) (s0 m0 c0 e0 q1 : Nat) (vr : Nat) (p n : Nat) (hm : md p n) (a b : Nat) (ha : a < 2 ^ n) (hb2 : b < 2 ^ n) : Met l y_S_times w_S_times ({ frames := 2, cells := 0, slots := 0, locals := 51 } : Room) (va_Pc [.ref s0, .long (lN a), .long (lN b)] (wq_R (dC, dI) classes [(s0, .inr (0, [.ref m0, .ref c0, .ref e0, .ref q1, .long (lN vr)])), (m0, .inr (1, [.long (lN p), .int (nI n), .long (lN (px_r p 2))]))] [(cI, .int), (cL, .long)])) (vp_Sl (fun r => r = lN (px_r p (px_m a b)))) 0 0 (fun _ => False) := by
  refine Met.ofW (cc := b_S_times) (maxL := 5) (ret := (Option.some Jvm.ClassFile.FieldType.long)) (by decide) rfl ?_
  intro pg en st mm ar bw me co s₁ B hml hv
  obtain ⟨rfl, hP, hK, hN⟩ := hv
  have hx := B.exec
  have hb := B.bytes
  have hr := B.returns
  have hlocks := B.notSynchronized
  have hts0 := atoms_spec (ws := w_S_times) B.pre
  have hts : ∀ w ∈ gw, w.before _ st = true := fun w h => hts0 w (List.mem_cons_of_mem _ h)
  have hown : st.vm.findClass R_S = some mm.cls := findClass_of_methodNamed B.named
  have hl := lv_entry ([.ref s0, .long (lN a), .long (lN b)]) (n := 5) (Nat.le_of_ble_eq_true rfl)
  rw [lg_entry_eq]
  generalize (lg_sl ([.ref s0, .long (lN a), .long (lN b)]) ++ List.replicate (5 - (lg_sl ([.ref s0, .long (lN a), .long (lN b)])).length) Slot.unset).toArray = ls at hl ⊢
  have hl : lv_has ls 5 [(0, .ref s0), (1, .long (lN a)), (3, .long (lN b))] := hl
  refine lv_aload_n hx hb d_S_times_0 rfl (lv_at hl 0 rfl) ?_
  refine lv_lload_n hx hb d_S_times_1 rfl (lv_at hl 1 rfl) ?_
  refine va_csv (va_Run.run (va_runV (As := [.long (lN a)]) (rest := []) ⟨hx, hb, hml, hown, hts⟩ (c_S_requireResidue l dC dI cI cL s0 m0 c0 e0 q1 vr p n a hm ha) (cwV 1 hts (gi_V kw_297 kw_299 ks_S_requireResidue kw_1 gi_S_requireResidue) rfl rfl rfl ⟨rfl, by decide, by decide, by decide⟩ ⟨Nat.le_of_ble_eq_true rfl, Nat.le_of_ble_eq_true rfl⟩) (wq_preVR hP hK hN [0, 1] rfl (q0 := 0) (ci := 0) rfl rfl rfl) rfl rfl hl.1 rfl (lv_room (Nat.le_of_ble_eq_true rfl)) d_S_times_2 ⟨Nat.le_of_ble_eq_true rfl, Nat.le_of_ble_eq_true rfl⟩)) (fun q1_ => ?_)
  refine lv_aload_n hx hb d_S_times_5 rfl (lv_at hl 0 rfl) ?_
  refine lv_lload_n hx hb d_S_times_6 rfl (lv_at hl 2 rfl) ?_
  refine va_csv (va_Run.run (va_runV (As := [.long (lN b)]) (rest := []) ⟨hx, hb, hml, hown, hts⟩ (c_S_requireResidue l dC dI cI cL s0 m0 c0 e0 q1 vr p n b hm hb2) (cwV 1 hts (gi_V kw_297 kw_299 ks_S_requireResidue kw_1 gi_S_requireResidue) rfl rfl rfl ⟨rfl, by decide, by decide, by decide⟩ ⟨Nat.le_of_ble_eq_true rfl, Nat.le_of_ble_eq_true rfl⟩) (wq_preVR hP hK hN [0, 1] rfl (q0 := 0) (ci := 0) rfl rfl rfl) rfl rfl hl.1 rfl (lv_room (Nat.le_of_ble_eq_true rfl)) d_S_times_7 ⟨Nat.le_of_ble_eq_true rfl, Nat.le_of_ble_eq_true rfl⟩)) (fun q2_ => ?_)
  refine lv_aload_n hx hb d_S_times_10 rfl (lv_at hl 0 rfl) ?_
  refine va_get (D := (dC, dI)) (ci := 0) (v := .ref m0) (C := R_S) (T := F_S) (N := 5) hx hb hts in_S hown hK hP 0 rfl rfl 0 (by decide) (hts _ kw_94) (fun _ h9 => h9) rfl d_S_times_11 ?_
  refine lv_lload_n hx hb d_S_times_14 rfl (lv_at hl 1 rfl) ?_
  refine lv_lload_n hx hb d_S_times_15 rfl (lv_at hl 2 rfl) ?_
  refine vp_callSl (va_Run.run (va_runVN (As := [.long (lN a), .long (lN b)]) (rest := []) ⟨hx, hb, hml, hown, hts⟩ (c_M_product l dC dI cI cL m0 p n a b hm ha hb2) ⟨va_cnB 2 hts gi_M_product rfl rfl rfl (hN _ kw_306) (hts _ kw_2) ⟨by decide, by decide, by decide⟩ ⟨Nat.le_of_ble_eq_true rfl, Nat.le_of_ble_eq_true rfl⟩, hts _ kw_141, hts _ ks_M_product⟩ (wq_preVR hP hK hN [1] rfl (q0 := 1) (ci := 1) rfl rfl rfl) rfl rfl hl.1 rfl (lv_room (Nat.le_of_ble_eq_true rfl)) d_S_times_16 ⟨Nat.le_of_ble_eq_true rfl, Nat.le_of_ble_eq_true rfl⟩)) (fun r hq => ?_)
  subst hq
  exact W.lret (v := lN (px_r p (px_m a b))) hx hb hr (fun t ht hW => ⟨lN (px_r p (px_m a b)), rfl, rfl, ht⟩) (fun _ h => nomatch h) d_S_times_19
set_option maxHeartbeats 4000000 in
set_option maxRecDepth 100000 in
theorem x_S_timesA (l : Launch) (dC : Nat → ClassId) (dI : Nat → Nat → Nat) (cI cL : ClassId) (hlt : l.stackTraces = false) (sz : Nat) (s0 m0 c0 e0 q1 : Nat) (vr : Nat) (p n : Nat) (hm : md p n) (a : Nat) (y : Int64) (ha2 : a < 2 ^ 64) (ha : ¬ a < 2 ^ n) : vx_Met l y_S_times w_S_times ({ frames := 7, cells := 1, slots := 6, locals := 104 } : Room) (va_Pc [.ref s0, .long (lN a), .long y] (wq_X (dC, dI) classes [(s0, .inr (0, [.ref m0, .ref c0, .ref e0, .ref q1, .long (lN vr)])), (m0, .inr (1, [.long (lN p), .int (nI n), .long (lN (px_r p 2))]))] [(cI, .int), (cL, .long)] sz)) (xq_l sz) (xq "java/lang/IllegalArgumentException" sz) 1 6 (fun q => sz ≤ q) := by
  refine vx_ofW (cc := b_S_times) (maxL := 5) (ret := (Option.some Jvm.ClassFile.FieldType.long)) (by decide) rfl ?_
  intro pg en st mm ar bw me co s₁ B hml hex hv
  obtain ⟨rfl, hsz, ⟨hP, hK, hN⟩, hE, hZ⟩ := hv
  subst hsz
  have hx := B.exec
  have hb := B.bytes
  have hr := B.returns
  have hlocks := B.notSynchronized
  have hts0 := atoms_spec (ws := w_S_times) B.pre
  have hts : ∀ w ∈ gw, w.before _ st = true := fun w h => hts0 w (List.mem_cons_of_mem _ h)
  have hown : st.vm.findClass R_S = some mm.cls := findClass_of_methodNamed B.named
  have hl := lv_entry ([.ref s0, .long (lN a), .long y]) (n := 5) (Nat.le_of_ble_eq_true rfl)
  rw [lg_entry_eq]
  generalize (lg_sl ([.ref s0, .long (lN a), .long y]) ++ List.replicate (5 - (lg_sl ([.ref s0, .long (lN a), .long y])).length) Slot.unset).toArray = ls at hl ⊢
  have hl : lv_has ls 5 [(0, .ref s0), (1, .long (lN a)), (3, .long y)] := hl
  refine lv_aload_n hx hb d_S_times_0 rfl (lv_at hl 0 rfl) ?_
  refine lv_lload_n hx hb d_S_times_1 rfl (lv_at hl 1 rfl) ?_
  exact xq_cv (cells := 0) (slots := 0) (mc := 1) (ms := 6) (MC := 1) (MS := 6) (vx_runV (As := [.long (lN a)]) (rest := []) ⟨hx, hb, hml, hown, hts⟩ (x_S_requireResidue l dC dI cI cL hlt st.heap.size s0 m0 c0 e0 q1 vr p n a hm ha2 ha) (cwV 1 hts (gi_V kw_297 kw_299 ks_S_requireResidue kw_1 gi_S_requireResidue) rfl rfl rfl ⟨rfl, by decide, by decide, by decide⟩ ⟨Nat.le_of_ble_eq_true rfl, Nat.le_of_ble_eq_true rfl⟩) (wq_preVX hP hK hN hE hZ [0, 1] rfl (q0 := 0) (ci := 0) rfl rfl rfl) rfl rfl hl.1 rfl (lv_room (Nat.le_of_ble_eq_true rfl)) d_S_times_2 ⟨Nat.le_of_ble_eq_true rfl, Nat.le_of_ble_eq_true rfl⟩) hex hlocks (Nat.le_of_ble_eq_true rfl) (Nat.le_of_ble_eq_true rfl)
set_option maxHeartbeats 4000000 in
set_option maxRecDepth 100000 in
theorem x_S_timesB (l : Launch) (dC : Nat → ClassId) (dI : Nat → Nat → Nat) (cI cL : ClassId) (hlt : l.stackTraces = false) (sz : Nat) (s0 m0 c0 e0 q1 : Nat) (vr : Nat) (p n : Nat) (hm : md p n) (a b : Nat) (ha : a < 2 ^ n) (hb2 : b < 2 ^ 64) (hb3 : ¬ b < 2 ^ n) : vx_Met l y_S_times w_S_times ({ frames := 7, cells := 1, slots := 6, locals := 104 } : Room) (va_Pc [.ref s0, .long (lN a), .long (lN b)] (wq_X (dC, dI) classes [(s0, .inr (0, [.ref m0, .ref c0, .ref e0, .ref q1, .long (lN vr)])), (m0, .inr (1, [.long (lN p), .int (nI n), .long (lN (px_r p 2))]))] [(cI, .int), (cL, .long)] sz)) (xq_l sz) (xq "java/lang/IllegalArgumentException" sz) 1 6 (fun q => sz ≤ q) := by
  refine vx_ofW (cc := b_S_times) (maxL := 5) (ret := (Option.some Jvm.ClassFile.FieldType.long)) (by decide) rfl ?_
  intro pg en st mm ar bw me co s₁ B hml hex hv
  obtain ⟨rfl, hsz, ⟨hP, hK, hN⟩, hE, hZ⟩ := hv
  subst hsz
  have hx := B.exec
  have hb := B.bytes
  have hr := B.returns
  have hlocks := B.notSynchronized
  have hts0 := atoms_spec (ws := w_S_times) B.pre
  have hts : ∀ w ∈ gw, w.before _ st = true := fun w h => hts0 w (List.mem_cons_of_mem _ h)
  have hown : st.vm.findClass R_S = some mm.cls := findClass_of_methodNamed B.named
  have hl := lv_entry ([.ref s0, .long (lN a), .long (lN b)]) (n := 5) (Nat.le_of_ble_eq_true rfl)
  rw [lg_entry_eq]
  generalize (lg_sl ([.ref s0, .long (lN a), .long (lN b)]) ++ List.replicate (5 - (lg_sl ([.ref s0, .long (lN a), .long (lN b)])).length) Slot.unset).toArray = ls at hl ⊢
  have hl : lv_has ls 5 [(0, .ref s0), (1, .long (lN a)), (3, .long (lN b))] := hl
  refine lv_aload_n hx hb d_S_times_0 rfl (lv_at hl 0 rfl) ?_
  refine lv_lload_n hx hb d_S_times_1 rfl (lv_at hl 1 rfl) ?_
  refine va_csv (va_Run.run (va_runV (As := [.long (lN a)]) (rest := []) ⟨hx, hb, hml, hown, hts⟩ (c_S_requireResidue l dC dI cI cL s0 m0 c0 e0 q1 vr p n a hm ha) (cwV 1 hts (gi_V kw_297 kw_299 ks_S_requireResidue kw_1 gi_S_requireResidue) rfl rfl rfl ⟨rfl, by decide, by decide, by decide⟩ ⟨Nat.le_of_ble_eq_true rfl, Nat.le_of_ble_eq_true rfl⟩) (wq_preVR hP hK hN [0, 1] rfl (q0 := 0) (ci := 0) rfl rfl rfl) rfl rfl hl.1 rfl (lv_room (Nat.le_of_ble_eq_true rfl)) d_S_times_2 ⟨Nat.le_of_ble_eq_true rfl, Nat.le_of_ble_eq_true rfl⟩)) (fun q1_ => ?_)
  refine lv_aload_n hx hb d_S_times_5 rfl (lv_at hl 0 rfl) ?_
  refine lv_lload_n hx hb d_S_times_6 rfl (lv_at hl 2 rfl) ?_
  exact xq_cv (cells := 0) (slots := 0) (mc := 1) (ms := 6) (MC := 1) (MS := 6) (vx_runV (As := [.long (lN b)]) (rest := []) ⟨hx, hb, hml, hown, hts⟩ (x_S_requireResidue l dC dI cI cL hlt st.heap.size s0 m0 c0 e0 q1 vr p n b hm hb2 hb3) (cwV 1 hts (gi_V kw_297 kw_299 ks_S_requireResidue kw_1 gi_S_requireResidue) rfl rfl rfl ⟨rfl, by decide, by decide, by decide⟩ ⟨Nat.le_of_ble_eq_true rfl, Nat.le_of_ble_eq_true rfl⟩) (wq_preVX hP hK hN hE hZ [0, 1] rfl (q0 := 0) (ci := 0) rfl rfl rfl) rfl rfl hl.1 rfl (lv_room (Nat.le_of_ble_eq_true rfl)) d_S_times_7 ⟨Nat.le_of_ble_eq_true rfl, Nat.le_of_ble_eq_true rfl⟩) hex hlocks (Nat.le_of_ble_eq_true rfl) (Nat.le_of_ble_eq_true rfl)
set_option maxHeartbeats 4000000 in
set_option maxRecDepth 100000 in
theorem c_S_power (l : Launch) (dC : Nat → ClassId) (dI : Nat → Nat → Nat) (cI cL : ClassId) (s0 m0 c0 e0 q1 : Nat) (vr : Nat) (p n : Nat) (hm : md p n) (a e : Nat) (ha : a < 2 ^ n) (he : e < 2 ^ 63) : Met l y_S_power w_S_power ({ frames := 3, cells := 0, slots := 0, locals := 80 } : Room) (va_Pc [.ref s0, .long (lN a), .long (lN e)] (wq_R (dC, dI) classes [(s0, .inr (0, [.ref m0, .ref c0, .ref e0, .ref q1, .long (lN vr)])), (m0, .inr (1, [.long (lN p), .int (nI n), .long (lN (px_r p 2))]))] [(cI, .int), (cL, .long)])) (vp_Sl (fun r => r = lN (px_r p (px_pw a e)))) 0 0 (fun _ => False) := by
  refine Met.ofW (cc := b_S_power) (maxL := 5) (ret := (Option.some Jvm.ClassFile.FieldType.long)) (by decide) rfl ?_
  intro pg en st mm ar bw me co s₁ B hml hv
  obtain ⟨rfl, hP, hK, hN⟩ := hv
  have hx := B.exec
  have hb := B.bytes
  have hr := B.returns
  have hlocks := B.notSynchronized
  have hts0 := atoms_spec (ws := w_S_power) B.pre
  have hts : ∀ w ∈ gw, w.before _ st = true := fun w h => hts0 w (List.mem_cons_of_mem _ h)
  have hown : st.vm.findClass R_S = some mm.cls := findClass_of_methodNamed B.named
  have hl := lv_entry ([.ref s0, .long (lN a), .long (lN e)]) (n := 5) (Nat.le_of_ble_eq_true rfl)
  rw [lg_entry_eq]
  generalize (lg_sl ([.ref s0, .long (lN a), .long (lN e)]) ++ List.replicate (5 - (lg_sl ([.ref s0, .long (lN a), .long (lN e)])).length) Slot.unset).toArray = ls at hl ⊢
  have hl : lv_has ls 5 [(0, .ref s0), (1, .long (lN a)), (3, .long (lN e))] := hl
  refine lv_aload_n hx hb d_S_power_0 rfl (lv_at hl 0 rfl) ?_
  refine lv_lload_n hx hb d_S_power_1 rfl (lv_at hl 1 rfl) ?_
  refine va_csv (va_Run.run (va_runV (As := [.long (lN a)]) (rest := []) ⟨hx, hb, hml, hown, hts⟩ (c_S_requireResidue l dC dI cI cL s0 m0 c0 e0 q1 vr p n a hm ha) (cwV 1 hts (gi_V kw_297 kw_299 ks_S_requireResidue kw_1 gi_S_requireResidue) rfl rfl rfl ⟨rfl, by decide, by decide, by decide⟩ ⟨Nat.le_of_ble_eq_true rfl, Nat.le_of_ble_eq_true rfl⟩) (wq_preVR hP hK hN [0, 1] rfl (q0 := 0) (ci := 0) rfl rfl rfl) rfl rfl hl.1 rfl (lv_room (Nat.le_of_ble_eq_true rfl)) d_S_power_2 ⟨Nat.le_of_ble_eq_true rfl, Nat.le_of_ble_eq_true rfl⟩)) (fun q1_ => ?_)
  refine lv_aload_n hx hb d_S_power_5 rfl (lv_at hl 0 rfl) ?_
  refine lv_lload_n hx hb d_S_power_6 rfl (lv_at hl 2 rfl) ?_
  refine va_csv (va_Run.run (va_runV (As := [.long (lN e)]) (rest := []) ⟨hx, hb, hml, hown, hts⟩ (c_S_requireNotNegative l dC dI cI cL s0 m0 c0 e0 q1 vr e he) (cwV 1 hts (gi_V kw_314 kw_316 ks_S_requireNotNegative kw_1 gi_S_requireNotNegative) rfl rfl rfl ⟨rfl, by decide, by decide, by decide⟩ ⟨Nat.le_of_ble_eq_true rfl, Nat.le_of_ble_eq_true rfl⟩) (wq_preVR hP hK hN [0] rfl (q0 := 0) (ci := 0) rfl rfl rfl) rfl rfl hl.1 rfl (lv_room (Nat.le_of_ble_eq_true rfl)) d_S_power_7 ⟨Nat.le_of_ble_eq_true rfl, Nat.le_of_ble_eq_true rfl⟩)) (fun q2_ => ?_)
  refine lv_aload_n hx hb d_S_power_10 rfl (lv_at hl 0 rfl) ?_
  refine va_get (D := (dC, dI)) (ci := 0) (v := .ref m0) (C := R_S) (T := F_S) (N := 5) hx hb hts in_S hown hK hP 0 rfl rfl 0 (by decide) (hts _ kw_94) (fun _ h9 => h9) rfl d_S_power_11 ?_
  refine lv_lload_n hx hb d_S_power_14 rfl (lv_at hl 1 rfl) ?_
  refine lv_lload_n hx hb d_S_power_15 rfl (lv_at hl 2 rfl) ?_
  refine vp_callSl (va_Run.run (va_runVN (As := [.long (lN a), .long (lN e)]) (rest := []) ⟨hx, hb, hml, hown, hts⟩ (c_M_raised l dC dI cI cL m0 p n a e hm ha (by omega)) ⟨va_cnB 2 hts gi_M_raised rfl rfl rfl (hN _ kw_319) (hts _ kw_2) ⟨by decide, by decide, by decide⟩ ⟨Nat.le_of_ble_eq_true rfl, Nat.le_of_ble_eq_true rfl⟩, hts _ kw_160, hts _ ks_M_raised⟩ (wq_preVR hP hK hN [1] rfl (q0 := 1) (ci := 1) rfl rfl rfl) rfl rfl hl.1 rfl (lv_room (Nat.le_of_ble_eq_true rfl)) d_S_power_16 ⟨Nat.le_of_ble_eq_true rfl, Nat.le_of_ble_eq_true rfl⟩)) (fun r hq => ?_)
  subst hq
  exact W.lret (v := lN (px_r p (px_pw a e))) hx hb hr (fun t ht hW => ⟨lN (px_r p (px_pw a e)), rfl, rfl, ht⟩) (fun _ h => nomatch h) d_S_power_19
set_option maxHeartbeats 4000000 in
set_option maxRecDepth 100000 in
theorem x_S_powerA (l : Launch) (dC : Nat → ClassId) (dI : Nat → Nat → Nat) (cI cL : ClassId) (hlt : l.stackTraces = false) (sz : Nat) (s0 m0 c0 e0 q1 : Nat) (vr : Nat) (p n : Nat) (hm : md p n) (a : Nat) (y : Int64) (ha2 : a < 2 ^ 64) (ha : ¬ a < 2 ^ n) : vx_Met l y_S_power w_S_power ({ frames := 7, cells := 1, slots := 6, locals := 104 } : Room) (va_Pc [.ref s0, .long (lN a), .long y] (wq_X (dC, dI) classes [(s0, .inr (0, [.ref m0, .ref c0, .ref e0, .ref q1, .long (lN vr)])), (m0, .inr (1, [.long (lN p), .int (nI n), .long (lN (px_r p 2))]))] [(cI, .int), (cL, .long)] sz)) (xq_l sz) (xq "java/lang/IllegalArgumentException" sz) 1 6 (fun q => sz ≤ q) := by
  refine vx_ofW (cc := b_S_power) (maxL := 5) (ret := (Option.some Jvm.ClassFile.FieldType.long)) (by decide) rfl ?_
  intro pg en st mm ar bw me co s₁ B hml hex hv
  obtain ⟨rfl, hsz, ⟨hP, hK, hN⟩, hE, hZ⟩ := hv
  subst hsz
  have hx := B.exec
  have hb := B.bytes
  have hr := B.returns
  have hlocks := B.notSynchronized
  have hts0 := atoms_spec (ws := w_S_power) B.pre
  have hts : ∀ w ∈ gw, w.before _ st = true := fun w h => hts0 w (List.mem_cons_of_mem _ h)
  have hown : st.vm.findClass R_S = some mm.cls := findClass_of_methodNamed B.named
  have hl := lv_entry ([.ref s0, .long (lN a), .long y]) (n := 5) (Nat.le_of_ble_eq_true rfl)
  rw [lg_entry_eq]
  generalize (lg_sl ([.ref s0, .long (lN a), .long y]) ++ List.replicate (5 - (lg_sl ([.ref s0, .long (lN a), .long y])).length) Slot.unset).toArray = ls at hl ⊢
  have hl : lv_has ls 5 [(0, .ref s0), (1, .long (lN a)), (3, .long y)] := hl
  refine lv_aload_n hx hb d_S_power_0 rfl (lv_at hl 0 rfl) ?_
  refine lv_lload_n hx hb d_S_power_1 rfl (lv_at hl 1 rfl) ?_
  exact xq_cv (cells := 0) (slots := 0) (mc := 1) (ms := 6) (MC := 1) (MS := 6) (vx_runV (As := [.long (lN a)]) (rest := []) ⟨hx, hb, hml, hown, hts⟩ (x_S_requireResidue l dC dI cI cL hlt st.heap.size s0 m0 c0 e0 q1 vr p n a hm ha2 ha) (cwV 1 hts (gi_V kw_297 kw_299 ks_S_requireResidue kw_1 gi_S_requireResidue) rfl rfl rfl ⟨rfl, by decide, by decide, by decide⟩ ⟨Nat.le_of_ble_eq_true rfl, Nat.le_of_ble_eq_true rfl⟩) (wq_preVX hP hK hN hE hZ [0, 1] rfl (q0 := 0) (ci := 0) rfl rfl rfl) rfl rfl hl.1 rfl (lv_room (Nat.le_of_ble_eq_true rfl)) d_S_power_2 ⟨Nat.le_of_ble_eq_true rfl, Nat.le_of_ble_eq_true rfl⟩) hex hlocks (Nat.le_of_ble_eq_true rfl) (Nat.le_of_ble_eq_true rfl)
set_option maxHeartbeats 4000000 in
set_option maxRecDepth 100000 in
theorem x_S_powerB (l : Launch) (dC : Nat → ClassId) (dI : Nat → Nat → Nat) (cI cL : ClassId) (hlt : l.stackTraces = false) (sz : Nat) (s0 m0 c0 e0 q1 : Nat) (vr : Nat) (p n : Nat) (hm : md p n) (a e : Nat) (ha : a < 2 ^ n) (he2 : e < 2 ^ 64) (he : ¬ e < 2 ^ 63) : vx_Met l y_S_power w_S_power ({ frames := 7, cells := 1, slots := 6, locals := 104 } : Room) (va_Pc [.ref s0, .long (lN a), .long (lN e)] (wq_X (dC, dI) classes [(s0, .inr (0, [.ref m0, .ref c0, .ref e0, .ref q1, .long (lN vr)])), (m0, .inr (1, [.long (lN p), .int (nI n), .long (lN (px_r p 2))]))] [(cI, .int), (cL, .long)] sz)) (xq_l sz) (xq "java/lang/IllegalArgumentException" sz) 1 6 (fun q => sz ≤ q) := by
  refine vx_ofW (cc := b_S_power) (maxL := 5) (ret := (Option.some Jvm.ClassFile.FieldType.long)) (by decide) rfl ?_
  intro pg en st mm ar bw me co s₁ B hml hex hv
  obtain ⟨rfl, hsz, ⟨hP, hK, hN⟩, hE, hZ⟩ := hv
  subst hsz
  have hx := B.exec
  have hb := B.bytes
  have hr := B.returns
  have hlocks := B.notSynchronized
  have hts0 := atoms_spec (ws := w_S_power) B.pre
  have hts : ∀ w ∈ gw, w.before _ st = true := fun w h => hts0 w (List.mem_cons_of_mem _ h)
  have hown : st.vm.findClass R_S = some mm.cls := findClass_of_methodNamed B.named
  have hl := lv_entry ([.ref s0, .long (lN a), .long (lN e)]) (n := 5) (Nat.le_of_ble_eq_true rfl)
  rw [lg_entry_eq]
  generalize (lg_sl ([.ref s0, .long (lN a), .long (lN e)]) ++ List.replicate (5 - (lg_sl ([.ref s0, .long (lN a), .long (lN e)])).length) Slot.unset).toArray = ls at hl ⊢
  have hl : lv_has ls 5 [(0, .ref s0), (1, .long (lN a)), (3, .long (lN e))] := hl
  refine lv_aload_n hx hb d_S_power_0 rfl (lv_at hl 0 rfl) ?_
  refine lv_lload_n hx hb d_S_power_1 rfl (lv_at hl 1 rfl) ?_
  refine va_csv (va_Run.run (va_runV (As := [.long (lN a)]) (rest := []) ⟨hx, hb, hml, hown, hts⟩ (c_S_requireResidue l dC dI cI cL s0 m0 c0 e0 q1 vr p n a hm ha) (cwV 1 hts (gi_V kw_297 kw_299 ks_S_requireResidue kw_1 gi_S_requireResidue) rfl rfl rfl ⟨rfl, by decide, by decide, by decide⟩ ⟨Nat.le_of_ble_eq_true rfl, Nat.le_of_ble_eq_true rfl⟩) (wq_preVR hP hK hN [0, 1] rfl (q0 := 0) (ci := 0) rfl rfl rfl) rfl rfl hl.1 rfl (lv_room (Nat.le_of_ble_eq_true rfl)) d_S_power_2 ⟨Nat.le_of_ble_eq_true rfl, Nat.le_of_ble_eq_true rfl⟩)) (fun q1_ => ?_)
  refine lv_aload_n hx hb d_S_power_5 rfl (lv_at hl 0 rfl) ?_
  refine lv_lload_n hx hb d_S_power_6 rfl (lv_at hl 2 rfl) ?_
  exact xq_cv (cells := 0) (slots := 0) (mc := 1) (ms := 6) (MC := 1) (MS := 6) (vx_runV (As := [.long (lN e)]) (rest := []) ⟨hx, hb, hml, hown, hts⟩ (x_S_requireNotNegative l dC dI cI cL hlt st.heap.size s0 m0 c0 e0 q1 vr e he2 he) (cwV 1 hts (gi_V kw_314 kw_316 ks_S_requireNotNegative kw_1 gi_S_requireNotNegative) rfl rfl rfl ⟨rfl, by decide, by decide, by decide⟩ ⟨Nat.le_of_ble_eq_true rfl, Nat.le_of_ble_eq_true rfl⟩) (wq_preVX hP hK hN hE hZ [0] rfl (q0 := 0) (ci := 0) rfl rfl rfl) rfl rfl hl.1 rfl (lv_room (Nat.le_of_ble_eq_true rfl)) d_S_power_7 ⟨Nat.le_of_ble_eq_true rfl, Nat.le_of_ble_eq_true rfl⟩) hex hlocks (Nat.le_of_ble_eq_true rfl) (Nat.le_of_ble_eq_true rfl)
set_option maxHeartbeats 4000000 in
set_option maxRecDepth 100000 in
theorem c_S_load (l : Launch) (dC : Nat → ClassId) (dI : Nat → Nat → Nat) (cI cL : ClassId) (sz : Nat) (s0 m0 c0 e0 q1 : Nat) (vr : Nat) (p n : Nat) (hm : md p n) (a : Nat) (ha : a < 2 ^ n) : Met l y_S_load w_S_load ({ frames := 2, cells := 0, slots := 0, locals := 44 } : Room) (va_Pc [.ref s0, .long (lN a)] (wq_W (dC, dI) classes [(s0, .inr (0, [.ref m0, .ref c0, .ref e0, .ref q1, .long (lN vr)])), (m0, .inr (1, [.long (lN p), .int (nI n), .long (lN (px_r p 2))]))] [(cI, .int), (cL, .long)] sz)) (va_Ql (fun (r : Int64) (u : Unit) => r = lN vr) (fun (u : Unit) t => wq_B (dC, dI) classes [(cI, .int), (cL, .long)] (va_A [(s0, .inr (0, [.ref m0, .ref c0, .ref e0, .ref q1, .long (lN vr)])), (m0, .inr (1, [.long (lN p), .int (nI n), .long (lN (px_r p 2))]))] sz) [(s0, .inr (0, [.ref m0, .ref c0, .ref e0, .ref q1, .long (lN a)])), (m0, .inr (1, [.long (lN p), .int (nI n), .long (lN (px_r p 2))]))] t) (va_A [(s0, .inr (0, [.ref m0, .ref c0, .ref e0, .ref q1, .long (lN vr)])), (m0, .inr (1, [.long (lN p), .int (nI n), .long (lN (px_r p 2))]))] sz)) 0 0 (va_A [(s0, .inr (0, [.ref m0, .ref c0, .ref e0, .ref q1, .long (lN vr)])), (m0, .inr (1, [.long (lN p), .int (nI n), .long (lN (px_r p 2))]))] sz) := by
  refine Met.ofW (cc := b_S_load) (maxL := 5) (ret := (Option.some Jvm.ClassFile.FieldType.long)) (by decide) rfl ?_
  intro pg en st mm ar bw me co s₁ B hml hv
  obtain ⟨rfl, hsz, hP, hK, hD0, hN⟩ := hv
  have hx := B.exec
  have hb := B.bytes
  have hr := B.returns
  have hlocks := B.notSynchronized
  have hts0 := atoms_spec (ws := w_S_load) B.pre
  have hts : ∀ w ∈ gw, w.before _ st = true := fun w h => hts0 w (List.mem_cons_of_mem _ h)
  have hown : st.vm.findClass R_S = some mm.cls := findClass_of_methodNamed B.named
  subst hsz
  have hD := hD0.self (sz := st.heap.size)
  generalize hAe : va_A [(s0, .inr (0, [.ref m0, .ref c0, .ref e0, .ref q1, .long (lN vr)])), (m0, .inr (1, [.long (lN p), .int (nI n), .long (lN (px_r p 2))]))] st.heap.size = A at hD ⊢
  have hA : ∀ q : Nat, st.heap.size ≤ q → A q := fun q h => by rw [← hAe]; exact Or.inr h
  have hS : va_S A st.heap st.heap [] := va_S.rf
  have hl := lv_entry ([.ref s0, .long (lN a)]) (n := 5) (Nat.le_of_ble_eq_true rfl)
  rw [lg_entry_eq]
  generalize (lg_sl ([.ref s0, .long (lN a)]) ++ List.replicate (5 - (lg_sl ([.ref s0, .long (lN a)])).length) Slot.unset).toArray = ls at hl ⊢
  have hl : lv_has ls 5 [(0, .ref s0), (1, .long (lN a))] := hl
  refine lv_aload_n hx hb d_S_load_0 rfl (lv_at hl 0 rfl) ?_
  refine lv_lload_n hx hb d_S_load_1 rfl (lv_at hl 1 rfl) ?_
  refine va_csv (va_Run.run (va_runV (As := [.long (lN a)]) (rest := []) ⟨hx, hb, hml, hown, hts⟩ (c_S_requireResidue l dC dI cI cL s0 m0 c0 e0 q1 vr p n a hm ha) (cwV 1 hts (gi_V kw_297 kw_299 ks_S_requireResidue kw_1 gi_S_requireResidue) rfl rfl rfl ⟨rfl, by decide, by decide, by decide⟩ ⟨Nat.le_of_ble_eq_true rfl, Nat.le_of_ble_eq_true rfl⟩) (wq_preVR hP hK hN [0, 1] rfl (q0 := 0) (ci := 0) rfl rfl rfl) rfl rfl hl.1 rfl (lv_room (Nat.le_of_ble_eq_true rfl)) d_S_load_2 ⟨Nat.le_of_ble_eq_true rfl, Nat.le_of_ble_eq_true rfl⟩)) (fun q1_ => ?_)
  refine lv_aload_n hx hb d_S_load_5 rfl (lv_at hl 0 rfl) ?_
  refine va_get (D := (dC, dI)) (ci := 0) (v := .long (lN vr)) (C := R_S) (T := F_S) (N := 5) hx hb hts in_S hown hK hP 0 rfl rfl 4 (by decide) (hts _ kw_98) (fun _ h9 => h9) rfl d_S_load_6 ?_
  refine lv_lstore_n (lv' := [(3, .long (lN vr)), (0, .ref s0), (1, .long (lN a))]) hx hb d_S_load_9 rfl hl (by decide) rfl (fun ls hl => ?_)
  refine lv_aload_n hx hb d_S_load_10 rfl (lv_at hl 1 rfl) ?_
  refine lv_lload_n hx hb d_S_load_11 rfl (lv_at hl 2 rfl) ?_
  refine va_put (D := (dC, dI)) (ci := 0) (v := .long (lN a)) (ty := .long) (C := R_S) (T := F_S) (N := 5) hx hb hts in_S t_S t_S_ok n_S hown hK hP hD hS 0 rfl rfl 4 (by decide) (hts _ kw_98) (fun _ h9 => h9) rfl (by decide +kernel) rfl rfl (Nat.le_of_ble_eq_true rfl) d_S_load_12 (fun H locs hP hD hS => ?_)
  have hP : va_P (dC, dI) classes [(s0, .inr (0, [.ref m0, .ref c0, .ref e0, .ref q1, .long (lN a)])), (m0, .inr (1, [.long (lN p), .int (nI n), .long (lN (px_r p 2))]))] H := hP
  have hD : va_D A [(s0, .inr (0, [.ref m0, .ref c0, .ref e0, .ref q1, .long (lN a)])), (m0, .inr (1, [.long (lN p), .int (nI n), .long (lN (px_r p 2))]))] := hD
  refine lv_lload_n hx hb d_S_load_15 rfl (lv_at hl 0 rfl) ?_
  have hP := hP.sub (ws' := [(s0, .inr (0, [.ref m0, .ref c0, .ref e0, .ref q1, .long (lN a)])), (m0, .inr (1, [.long (lN p), .int (nI n), .long (lN (px_r p 2))]))]) [0, 1] rfl
  have hD := hD.sub (ws' := [(s0, .inr (0, [.ref m0, .ref c0, .ref e0, .ref q1, .long (lN a)])), (m0, .inr (1, [.long (lN p), .int (nI n), .long (lN (px_r p 2))]))]) [0, 1] (by decide) rfl
  exact W.lret (v := lN vr) hx hb hr (fun t ht hW => ⟨⟨lN vr, (), rfl, rfl, by rw [ht]; exact hP, va_K.moved hW.alike hK, hD⟩, hS.F ht⟩) hS.2.2 d_S_load_16
set_option maxHeartbeats 4000000 in
set_option maxRecDepth 100000 in
theorem x_S_load (l : Launch) (dC : Nat → ClassId) (dI : Nat → Nat → Nat) (cI cL : ClassId) (hlt : l.stackTraces = false) (sz : Nat) (s0 m0 c0 e0 q1 : Nat) (vr : Nat) (p n : Nat) (hm : md p n) (a : Nat) (ha2 : a < 2 ^ 64) (ha : ¬ a < 2 ^ n) : vx_Met l y_S_load w_S_load ({ frames := 7, cells := 1, slots := 6, locals := 104 } : Room) (va_Pc [.ref s0, .long (lN a)] (wq_X (dC, dI) classes [(s0, .inr (0, [.ref m0, .ref c0, .ref e0, .ref q1, .long (lN vr)])), (m0, .inr (1, [.long (lN p), .int (nI n), .long (lN (px_r p 2))]))] [(cI, .int), (cL, .long)] sz)) (xq_l sz) (xq "java/lang/IllegalArgumentException" sz) 1 6 (fun q => sz ≤ q) := by
  refine vx_ofW (cc := b_S_load) (maxL := 5) (ret := (Option.some Jvm.ClassFile.FieldType.long)) (by decide) rfl ?_
  intro pg en st mm ar bw me co s₁ B hml hex hv
  obtain ⟨rfl, hsz, ⟨hP, hK, hN⟩, hE, hZ⟩ := hv
  subst hsz
  have hx := B.exec
  have hb := B.bytes
  have hr := B.returns
  have hlocks := B.notSynchronized
  have hts0 := atoms_spec (ws := w_S_load) B.pre
  have hts : ∀ w ∈ gw, w.before _ st = true := fun w h => hts0 w (List.mem_cons_of_mem _ h)
  have hown : st.vm.findClass R_S = some mm.cls := findClass_of_methodNamed B.named
  have hl := lv_entry ([.ref s0, .long (lN a)]) (n := 5) (Nat.le_of_ble_eq_true rfl)
  rw [lg_entry_eq]
  generalize (lg_sl ([.ref s0, .long (lN a)]) ++ List.replicate (5 - (lg_sl ([.ref s0, .long (lN a)])).length) Slot.unset).toArray = ls at hl ⊢
  have hl : lv_has ls 5 [(0, .ref s0), (1, .long (lN a))] := hl
  refine lv_aload_n hx hb d_S_load_0 rfl (lv_at hl 0 rfl) ?_
  refine lv_lload_n hx hb d_S_load_1 rfl (lv_at hl 1 rfl) ?_
  exact xq_cv (cells := 0) (slots := 0) (mc := 1) (ms := 6) (MC := 1) (MS := 6) (vx_runV (As := [.long (lN a)]) (rest := []) ⟨hx, hb, hml, hown, hts⟩ (x_S_requireResidue l dC dI cI cL hlt st.heap.size s0 m0 c0 e0 q1 vr p n a hm ha2 ha) (cwV 1 hts (gi_V kw_297 kw_299 ks_S_requireResidue kw_1 gi_S_requireResidue) rfl rfl rfl ⟨rfl, by decide, by decide, by decide⟩ ⟨Nat.le_of_ble_eq_true rfl, Nat.le_of_ble_eq_true rfl⟩) (wq_preVX hP hK hN hE hZ [0, 1] rfl (q0 := 0) (ci := 0) rfl rfl rfl) rfl rfl hl.1 rfl (lv_room (Nat.le_of_ble_eq_true rfl)) d_S_load_2 ⟨Nat.le_of_ble_eq_true rfl, Nat.le_of_ble_eq_true rfl⟩) hex hlocks (Nat.le_of_ble_eq_true rfl) (Nat.le_of_ble_eq_true rfl)
set_option maxHeartbeats 4000000 in
set_option maxRecDepth 100000 in
theorem c_S_steps (l : Launch) (dC : Nat → ClassId) (dI : Nat → Nat → Nat) (cI cL : ClassId) (sz : Nat) (s0 m0 c0 e0 q1 : Nat) (vr : Nat) (p n : Nat) (hm : md p n) (e : Nat) (he : e < 2 ^ 63) (hvr : vr < 2 ^ n) : Met l y_S_steps w_S_steps ({ frames := 3, cells := 0, slots := 0, locals := 80 } : Room) (va_Pc [.ref s0, .long (lN e)] (wq_W (dC, dI) classes [(s0, .inr (0, [.ref m0, .ref c0, .ref e0, .ref q1, .long (lN vr)])), (m0, .inr (1, [.long (lN p), .int (nI n), .long (lN (px_r p 2))]))] [(cI, .int), (cL, .long)] sz)) (va_Ql (fun (r : Int64) (u : Unit) => r = lN (px_r p (px_m vr (px_r p (px_pw (px_r p 2) e))))) (fun (u : Unit) t => wq_B (dC, dI) classes [(cI, .int), (cL, .long)] (va_A [(s0, .inr (0, [.ref m0, .ref c0, .ref e0, .ref q1, .long (lN vr)])), (m0, .inr (1, [.long (lN p), .int (nI n), .long (lN (px_r p 2))]))] sz) [(s0, .inr (0, [.ref m0, .ref c0, .ref e0, .ref q1, .long (lN (px_r p (px_m vr (px_r p (px_pw (px_r p 2) e)))))])), (m0, .inr (1, [.long (lN p), .int (nI n), .long (lN (px_r p 2))]))] t) (va_A [(s0, .inr (0, [.ref m0, .ref c0, .ref e0, .ref q1, .long (lN vr)])), (m0, .inr (1, [.long (lN p), .int (nI n), .long (lN (px_r p 2))]))] sz)) 0 0 (va_A [(s0, .inr (0, [.ref m0, .ref c0, .ref e0, .ref q1, .long (lN vr)])), (m0, .inr (1, [.long (lN p), .int (nI n), .long (lN (px_r p 2))]))] sz) := by
  refine Met.ofW (cc := b_S_steps) (maxL := 3) (ret := (Option.some Jvm.ClassFile.FieldType.long)) (by decide) rfl ?_
  intro pg en st mm ar bw me co s₁ B hml hv
  obtain ⟨rfl, hsz, hP, hK, hD0, hN⟩ := hv
  have hx := B.exec
  have hb := B.bytes
  have hr := B.returns
  have hlocks := B.notSynchronized
  have hts0 := atoms_spec (ws := w_S_steps) B.pre
  have hts : ∀ w ∈ gw, w.before _ st = true := fun w h => hts0 w (List.mem_cons_of_mem _ h)
  have hown : st.vm.findClass R_S = some mm.cls := findClass_of_methodNamed B.named
  subst hsz
  have hD := hD0.self (sz := st.heap.size)
  generalize hAe : va_A [(s0, .inr (0, [.ref m0, .ref c0, .ref e0, .ref q1, .long (lN vr)])), (m0, .inr (1, [.long (lN p), .int (nI n), .long (lN (px_r p 2))]))] st.heap.size = A at hD ⊢
  have hA : ∀ q : Nat, st.heap.size ≤ q → A q := fun q h => by rw [← hAe]; exact Or.inr h
  have hS : va_S A st.heap st.heap [] := va_S.rf
  have hl := lv_entry ([.ref s0, .long (lN e)]) (n := 3) (Nat.le_of_ble_eq_true rfl)
  rw [lg_entry_eq]
  generalize (lg_sl ([.ref s0, .long (lN e)]) ++ List.replicate (3 - (lg_sl ([.ref s0, .long (lN e)])).length) Slot.unset).toArray = ls at hl ⊢
  have hl : lv_has ls 3 [(0, .ref s0), (1, .long (lN e))] := hl
  refine lv_aload_n hx hb d_S_steps_0 rfl (lv_at hl 0 rfl) ?_
  refine lv_lload_n hx hb d_S_steps_1 rfl (lv_at hl 1 rfl) ?_
  refine va_csv (va_Run.run (va_runV (As := [.long (lN e)]) (rest := []) ⟨hx, hb, hml, hown, hts⟩ (c_S_requireNotNegative l dC dI cI cL s0 m0 c0 e0 q1 vr e he) (cwV 1 hts (gi_V kw_314 kw_316 ks_S_requireNotNegative kw_1 gi_S_requireNotNegative) rfl rfl rfl ⟨rfl, by decide, by decide, by decide⟩ ⟨Nat.le_of_ble_eq_true rfl, Nat.le_of_ble_eq_true rfl⟩) (wq_preVR hP hK hN [0] rfl (q0 := 0) (ci := 0) rfl rfl rfl) rfl rfl hl.1 rfl (lv_room (Nat.le_of_ble_eq_true rfl)) d_S_steps_2 ⟨Nat.le_of_ble_eq_true rfl, Nat.le_of_ble_eq_true rfl⟩)) (fun q1_ => ?_)
  refine lv_aload_n hx hb d_S_steps_5 rfl (lv_at hl 0 rfl) ?_
  refine lv_aload_n hx hb d_S_steps_6 rfl (lv_at hl 0 rfl) ?_
  refine va_get (D := (dC, dI)) (ci := 0) (v := .ref m0) (C := R_S) (T := F_S) (N := 5) hx hb hts in_S hown hK hP 0 rfl rfl 0 (by decide) (hts _ kw_94) (fun _ h9 => h9) rfl d_S_steps_7 ?_
  refine lv_aload_n hx hb d_S_steps_10 rfl (lv_at hl 0 rfl) ?_
  refine va_get (D := (dC, dI)) (ci := 0) (v := .long (lN vr)) (C := R_S) (T := F_S) (N := 5) hx hb hts in_S hown hK hP 0 rfl rfl 4 (by decide) (hts _ kw_98) (fun _ h9 => h9) rfl d_S_steps_11 ?_
  refine lv_aload_n hx hb d_S_steps_14 rfl (lv_at hl 0 rfl) ?_
  refine va_get (D := (dC, dI)) (ci := 0) (v := .ref m0) (C := R_S) (T := F_S) (N := 5) hx hb hts in_S hown hK hP 0 rfl rfl 0 (by decide) (hts _ kw_94) (fun _ h9 => h9) rfl d_S_steps_15 ?_
  refine lv_aload_n hx hb d_S_steps_18 rfl (lv_at hl 0 rfl) ?_
  refine va_get (D := (dC, dI)) (ci := 0) (v := .ref m0) (C := R_S) (T := F_S) (N := 5) hx hb hts in_S hown hK hP 0 rfl rfl 0 (by decide) (hts _ kw_94) (fun _ h9 => h9) rfl d_S_steps_19 ?_
  refine va_getN (D := (dC, dI)) (ci := 1) (v := .long (lN (px_r p 2))) (C := R_M) (T := F_M) (N := 3) hx hb hts in_M hown hK hP 1 rfl rfl 2 (by decide) (nw_use hN kw_35) (fun _ h9 => h9) rfl d_S_steps_22 ?_
  refine lv_lload_n hx hb d_S_steps_25 rfl (lv_at hl 1 rfl) ?_
  refine vp_callSl (va_Run.run (va_runVN (As := [.long (lN (px_r p 2)), .long (lN e)]) (rest := [.long (lN vr), .ref m0, .ref s0]) ⟨hx, hb, hml, hown, hts⟩ (c_M_raised l dC dI cI cL m0 p n (px_r p 2) e hm (px_r_lt hm 2) (by omega)) ⟨va_cnB 2 hts gi_M_raised rfl rfl rfl (hN _ kw_319) (hts _ kw_2) ⟨by decide, by decide, by decide⟩ ⟨Nat.le_of_ble_eq_true rfl, Nat.le_of_ble_eq_true rfl⟩, hts _ kw_160, hts _ ks_M_raised⟩ (wq_preVR hP hK hN [1] rfl (q0 := 1) (ci := 1) rfl rfl rfl) rfl rfl hl.1 rfl (lv_room (Nat.le_of_ble_eq_true rfl)) d_S_steps_26 ⟨Nat.le_of_ble_eq_true rfl, Nat.le_of_ble_eq_true rfl⟩)) (fun r hq => ?_)
  subst hq
  refine vp_callSl (va_Run.run (va_runVN (As := [.long (lN vr), .long (lN (px_r p (px_pw (px_r p 2) e)))]) (rest := [.ref s0]) ⟨hx, hb, hml, hown, hts⟩ (c_M_product l dC dI cI cL m0 p n vr _ hm hvr (px_r_lt hm _)) ⟨va_cnB 2 hts gi_M_product rfl rfl rfl (hN _ kw_306) (hts _ kw_2) ⟨by decide, by decide, by decide⟩ ⟨Nat.le_of_ble_eq_true rfl, Nat.le_of_ble_eq_true rfl⟩, hts _ kw_141, hts _ ks_M_product⟩ (wq_preVR hP hK hN [1] rfl (q0 := 1) (ci := 1) rfl rfl rfl) rfl rfl hl.1 rfl (lv_room (Nat.le_of_ble_eq_true rfl)) d_S_steps_29 ⟨Nat.le_of_ble_eq_true rfl, Nat.le_of_ble_eq_true rfl⟩)) (fun r hq2 => ?_)
  subst hq2
  refine va_put (D := (dC, dI)) (ci := 0) (v := .long (lN (px_r p (px_m vr (px_r p (px_pw (px_r p 2) e)))))) (ty := .long) (C := R_S) (T := F_S) (N := 5) hx hb hts in_S t_S t_S_ok n_S hown hK hP hD hS 0 rfl rfl 4 (by decide) (hts _ kw_98) (fun _ h9 => h9) rfl (by decide +kernel) rfl rfl (Nat.le_of_ble_eq_true rfl) d_S_steps_32 (fun H locs hP hD hS => ?_)
  have hP : va_P (dC, dI) classes [(s0, .inr (0, [.ref m0, .ref c0, .ref e0, .ref q1, .long (lN (px_r p (px_m vr (px_r p (px_pw (px_r p 2) e)))))])), (m0, .inr (1, [.long (lN p), .int (nI n), .long (lN (px_r p 2))]))] H := hP
  have hD : va_D A [(s0, .inr (0, [.ref m0, .ref c0, .ref e0, .ref q1, .long (lN (px_r p (px_m vr (px_r p (px_pw (px_r p 2) e)))))])), (m0, .inr (1, [.long (lN p), .int (nI n), .long (lN (px_r p 2))]))] := hD
  refine lv_aload_n hx hb d_S_steps_35 rfl (lv_at hl 0 rfl) ?_
  refine va_get (D := (dC, dI)) (ci := 0) (v := .long (lN (px_r p (px_m vr (px_r p (px_pw (px_r p 2) e)))))) (C := R_S) (T := F_S) (N := 5) hx hb hts in_S hown hK hP 0 rfl rfl 4 (by decide) (hts _ kw_98) (fun _ h9 => h9) rfl d_S_steps_36 ?_
  have hP := hP.sub (ws' := [(s0, .inr (0, [.ref m0, .ref c0, .ref e0, .ref q1, .long (lN (px_r p (px_m vr (px_r p (px_pw (px_r p 2) e)))))])), (m0, .inr (1, [.long (lN p), .int (nI n), .long (lN (px_r p 2))]))]) [0, 1] rfl
  have hD := hD.sub (ws' := [(s0, .inr (0, [.ref m0, .ref c0, .ref e0, .ref q1, .long (lN (px_r p (px_m vr (px_r p (px_pw (px_r p 2) e)))))])), (m0, .inr (1, [.long (lN p), .int (nI n), .long (lN (px_r p 2))]))]) [0, 1] (by decide) rfl
  exact W.lret (v := lN (px_r p (px_m vr (px_r p (px_pw (px_r p 2) e))))) hx hb hr (fun t ht hW => ⟨⟨lN (px_r p (px_m vr (px_r p (px_pw (px_r p 2) e)))), (), rfl, rfl, by rw [ht]; exact hP, va_K.moved hW.alike hK, hD⟩, hS.F ht⟩) hS.2.2 d_S_steps_39
set_option maxHeartbeats 4000000 in
set_option maxRecDepth 100000 in
theorem x_S_steps (l : Launch) (dC : Nat → ClassId) (dI : Nat → Nat → Nat) (cI cL : ClassId) (hlt : l.stackTraces = false) (sz : Nat) (s0 m0 c0 e0 q1 : Nat) (vr : Nat) (e : Nat) (he2 : e < 2 ^ 64) (he : ¬ e < 2 ^ 63) : vx_Met l y_S_steps w_S_steps ({ frames := 7, cells := 1, slots := 6, locals := 104 } : Room) (va_Pc [.ref s0, .long (lN e)] (wq_X (dC, dI) classes [(s0, .inr (0, [.ref m0, .ref c0, .ref e0, .ref q1, .long (lN vr)]))] [(cI, .int), (cL, .long)] sz)) (xq_l sz) (xq "java/lang/IllegalArgumentException" sz) 1 6 (fun q => sz ≤ q) := by
  refine vx_ofW (cc := b_S_steps) (maxL := 3) (ret := (Option.some Jvm.ClassFile.FieldType.long)) (by decide) rfl ?_
  intro pg en st mm ar bw me co s₁ B hml hex hv
  obtain ⟨rfl, hsz, ⟨hP, hK, hN⟩, hE, hZ⟩ := hv
  subst hsz
  have hx := B.exec
  have hb := B.bytes
  have hr := B.returns
  have hlocks := B.notSynchronized
  have hts0 := atoms_spec (ws := w_S_steps) B.pre
  have hts : ∀ w ∈ gw, w.before _ st = true := fun w h => hts0 w (List.mem_cons_of_mem _ h)
  have hown : st.vm.findClass R_S = some mm.cls := findClass_of_methodNamed B.named
  have hl := lv_entry ([.ref s0, .long (lN e)]) (n := 3) (Nat.le_of_ble_eq_true rfl)
  rw [lg_entry_eq]
  generalize (lg_sl ([.ref s0, .long (lN e)]) ++ List.replicate (3 - (lg_sl ([.ref s0, .long (lN e)])).length) Slot.unset).toArray = ls at hl ⊢
  have hl : lv_has ls 3 [(0, .ref s0), (1, .long (lN e))] := hl
  refine lv_aload_n hx hb d_S_steps_0 rfl (lv_at hl 0 rfl) ?_
  refine lv_lload_n hx hb d_S_steps_1 rfl (lv_at hl 1 rfl) ?_
  exact xq_cv (cells := 0) (slots := 0) (mc := 1) (ms := 6) (MC := 1) (MS := 6) (vx_runV (As := [.long (lN e)]) (rest := []) ⟨hx, hb, hml, hown, hts⟩ (x_S_requireNotNegative l dC dI cI cL hlt st.heap.size s0 m0 c0 e0 q1 vr e he2 he) (cwV 1 hts (gi_V kw_314 kw_316 ks_S_requireNotNegative kw_1 gi_S_requireNotNegative) rfl rfl rfl ⟨rfl, by decide, by decide, by decide⟩ ⟨Nat.le_of_ble_eq_true rfl, Nat.le_of_ble_eq_true rfl⟩) (wq_preVX hP hK hN hE hZ [0] rfl (q0 := 0) (ci := 0) rfl rfl rfl) rfl rfl hl.1 rfl (lv_room (Nat.le_of_ble_eq_true rfl)) d_S_steps_2 ⟨Nat.le_of_ble_eq_true rfl, Nat.le_of_ble_eq_true rfl⟩) hex hlocks (Nat.le_of_ble_eq_true rfl) (Nat.le_of_ble_eq_true rfl)
set_option maxHeartbeats 4000000 in
set_option maxRecDepth 100000 in
theorem c_S_channel (l : Launch) (dC : Nat → ClassId) (dI : Nat → Nat → Nat) (cI cL : ClassId) (sz : Nat) (s0 m0 c0 e0 q1 : Nat) (vr : Nat) (p n : Nat) (hm : md p n) (k1 k2 k3 k4 k5 : Nat) (cc gc oc : Nat) (mk : Nat → Nat) (a : Nat) (ha : a < 2 ^ n) (hcc : cc < 8) : Met l y_S_channel w_S_channel ({ frames := 2, cells := 0, slots := 0, locals := 44 } : Room) (va_Pc [.ref s0, .long (lN a)] (wq_W (dC, dI) classes [(s0, .inr (0, [.ref m0, .ref c0, .ref e0, .ref q1, .long (lN vr)])), (m0, .inr (1, [.long (lN p), .int (nI n), .long (lN (px_r p 2))])), (c0, .inr (2, [.ref k1, .ref k2, .ref k3, .ref k4, .ref k5, .int (nI cc), .int (nI gc), .int (nI oc)])), (q1, .inl (cL, 8, .inr (.inl (fun c => lN (mk c)))))] [(cI, .int), (cL, .long)] sz)) (va_Qi (fun (r : Int32) (u : Unit) => r = nI cc) (fun (u : Unit) t => wq_B (dC, dI) classes [(cI, .int), (cL, .long)] (va_A [(s0, .inr (0, [.ref m0, .ref c0, .ref e0, .ref q1, .long (lN vr)])), (m0, .inr (1, [.long (lN p), .int (nI n), .long (lN (px_r p 2))])), (c0, .inr (2, [.ref k1, .ref k2, .ref k3, .ref k4, .ref k5, .int (nI cc), .int (nI gc), .int (nI oc)])), (q1, .inl (cL, 8, .inr (.inl (fun c => lN (mk c)))))] sz) [(s0, .inr (0, [.ref m0, .ref c0, .ref e0, .ref q1, .long (lN vr)])), (m0, .inr (1, [.long (lN p), .int (nI n), .long (lN (px_r p 2))])), (c0, .inr (2, [.ref k1, .ref k2, .ref k3, .ref k4, .ref k5, .int (nI (cc + 1)), .int (nI 0), .int (nI 0)])), (q1, .inl (cL, 8, .inr (.inl (fun c => lN ((va_up mk cc a) c)))))] t) (va_A [(s0, .inr (0, [.ref m0, .ref c0, .ref e0, .ref q1, .long (lN vr)])), (m0, .inr (1, [.long (lN p), .int (nI n), .long (lN (px_r p 2))])), (c0, .inr (2, [.ref k1, .ref k2, .ref k3, .ref k4, .ref k5, .int (nI cc), .int (nI gc), .int (nI oc)])), (q1, .inl (cL, 8, .inr (.inl (fun c => lN (mk c)))))] sz)) 0 0 (va_A [(s0, .inr (0, [.ref m0, .ref c0, .ref e0, .ref q1, .long (lN vr)])), (m0, .inr (1, [.long (lN p), .int (nI n), .long (lN (px_r p 2))])), (c0, .inr (2, [.ref k1, .ref k2, .ref k3, .ref k4, .ref k5, .int (nI cc), .int (nI gc), .int (nI oc)])), (q1, .inl (cL, 8, .inr (.inl (fun c => lN (mk c)))))] sz) := by
  refine Met.ofW (cc := b_S_channel) (maxL := 4) (ret := (Option.some Jvm.ClassFile.FieldType.int)) (by decide) rfl ?_
  intro pg en st mm ar bw me co s₁ B hml hv
  obtain ⟨rfl, hsz, hP, hK, hD0, hN⟩ := hv
  have hx := B.exec
  have hb := B.bytes
  have hr := B.returns
  have hlocks := B.notSynchronized
  have hts0 := atoms_spec (ws := w_S_channel) B.pre
  have hts : ∀ w ∈ gw, w.before _ st = true := fun w h => hts0 w (List.mem_cons_of_mem _ h)
  have hown : st.vm.findClass R_S = some mm.cls := findClass_of_methodNamed B.named
  subst hsz
  have hD := hD0.self (sz := st.heap.size)
  generalize hAe : va_A [(s0, .inr (0, [.ref m0, .ref c0, .ref e0, .ref q1, .long (lN vr)])), (m0, .inr (1, [.long (lN p), .int (nI n), .long (lN (px_r p 2))])), (c0, .inr (2, [.ref k1, .ref k2, .ref k3, .ref k4, .ref k5, .int (nI cc), .int (nI gc), .int (nI oc)])), (q1, .inl (cL, 8, .inr (.inl (fun c => lN (mk c)))))] st.heap.size = A at hD ⊢
  have hA : ∀ q : Nat, st.heap.size ≤ q → A q := fun q h => by rw [← hAe]; exact Or.inr h
  have hS : va_S A st.heap st.heap [] := va_S.rf
  have hl := lv_entry ([.ref s0, .long (lN a)]) (n := 4) (Nat.le_of_ble_eq_true rfl)
  rw [lg_entry_eq]
  generalize (lg_sl ([.ref s0, .long (lN a)]) ++ List.replicate (4 - (lg_sl ([.ref s0, .long (lN a)])).length) Slot.unset).toArray = ls at hl ⊢
  have hl : lv_has ls 4 [(0, .ref s0), (1, .long (lN a))] := hl
  refine lv_aload_n hx hb d_S_channel_0 rfl (lv_at hl 0 rfl) ?_
  refine lv_lload_n hx hb d_S_channel_1 rfl (lv_at hl 1 rfl) ?_
  refine va_csv (va_Run.run (va_runV (As := [.long (lN a)]) (rest := []) ⟨hx, hb, hml, hown, hts⟩ (c_S_requireResidue l dC dI cI cL s0 m0 c0 e0 q1 vr p n a hm ha) (cwV 1 hts (gi_V kw_297 kw_299 ks_S_requireResidue kw_1 gi_S_requireResidue) rfl rfl rfl ⟨rfl, by decide, by decide, by decide⟩ ⟨Nat.le_of_ble_eq_true rfl, Nat.le_of_ble_eq_true rfl⟩) (wq_preVR hP hK hN [0, 1] rfl (q0 := 0) (ci := 0) rfl rfl rfl) rfl rfl hl.1 rfl (lv_room (Nat.le_of_ble_eq_true rfl)) d_S_channel_2 ⟨Nat.le_of_ble_eq_true rfl, Nat.le_of_ble_eq_true rfl⟩)) (fun q1_ => ?_)
  refine lv_aload_n hx hb d_S_channel_5 rfl (lv_at hl 0 rfl) ?_
  refine va_get (D := (dC, dI)) (ci := 0) (v := .ref c0) (C := R_S) (T := F_S) (N := 5) hx hb hts in_S hown hK hP 0 rfl rfl 1 (by decide) (hts _ kw_95) (fun _ h9 => h9) rfl d_S_channel_6 ?_
  refine va_getN (D := (dC, dI)) (ci := 2) (v := .int (nI cc)) (C := R_C) (T := F_C) (N := 8) hx hb hts in_C hown hK hP 2 rfl rfl 5 (by decide) (nw_use hN kw_55) (fun _ h9 => h9) rfl d_S_channel_9 ?_
  refine lv_istore_n (lv' := [(3, .int (nI cc)), (0, .ref s0), (1, .long (lN a))]) hx hb d_S_channel_12 rfl hl (by decide) rfl (fun ls hl => ?_)
  refine lv_iload_n hx hb d_S_channel_13 rfl (lv_at hl 0 rfl) ?_
  refine lv_bipush (v := nI 8) hx hb d_S_channel_14 (by decide) ?_
  refine lv_icmp_lt (tgt := 29) hx hb d_S_channel_16 (by decide) (fun _ => ?_) (fun hc => absurd hc (fun z => z ((nI_ltI (by omega) (by decide)).mpr hcc)))
  refine lv_aload_n hx hb d_S_channel_29 rfl (lv_at hl 1 rfl) ?_
  refine va_get (D := (dC, dI)) (ci := 0) (v := .ref q1) (C := R_S) (T := F_S) (N := 5) hx hb hts in_S hown hK hP 0 rfl rfl 3 (by decide) (hts _ kw_97) (fun _ h9 => h9) rfl d_S_channel_30 ?_
  refine lv_iload_n hx hb d_S_channel_33 rfl (lv_at hl 0 rfl) ?_
  refine lv_lload_n hx hb d_S_channel_34 rfl (lv_at hl 2 rfl) ?_
  refine va_last (D := (dC, dI)) (i := (nI cc)) (x := (lN a)) hx hb hK hP hD hS 3 1 rfl rfl (vp_in_nI (by omega) (by decide)) d_S_channel_35 (fun H locs hP hD hS => ?_)
  rw [nI_clamp (by omega), updL_lN] at hP hD
  have hP : va_P (dC, dI) classes [(s0, .inr (0, [.ref m0, .ref c0, .ref e0, .ref q1, .long (lN vr)])), (m0, .inr (1, [.long (lN p), .int (nI n), .long (lN (px_r p 2))])), (c0, .inr (2, [.ref k1, .ref k2, .ref k3, .ref k4, .ref k5, .int (nI cc), .int (nI gc), .int (nI oc)])), (q1, .inl (cL, 8, .inr (.inl (fun c => lN ((va_up mk cc a) c)))))] H := hP
  have hD : va_D A [(s0, .inr (0, [.ref m0, .ref c0, .ref e0, .ref q1, .long (lN vr)])), (m0, .inr (1, [.long (lN p), .int (nI n), .long (lN (px_r p 2))])), (c0, .inr (2, [.ref k1, .ref k2, .ref k3, .ref k4, .ref k5, .int (nI cc), .int (nI gc), .int (nI oc)])), (q1, .inl (cL, 8, .inr (.inl (fun c => lN ((va_up mk cc a) c)))))] := hD
  refine lv_aload_n hx hb d_S_channel_36 rfl (lv_at hl 1 rfl) ?_
  refine va_get (D := (dC, dI)) (ci := 0) (v := .ref c0) (C := R_S) (T := F_S) (N := 5) hx hb hts in_S hown hK hP 0 rfl rfl 1 (by decide) (hts _ kw_95) (fun _ h9 => h9) rfl d_S_channel_37 ?_
  refine lv_iload_n hx hb d_S_channel_40 rfl (lv_at hl 0 rfl) ?_
  refine lv_iconst (v := nI 1) hx hb d_S_channel_41 (by decide) ?_
  refine lv_iadd hx hb d_S_channel_42 ?_
  refine lv_topi (nm_r (show _ = nI (cc + 1) from nI_add cc 1) ?_)
  refine wq_v (wr := [(s0, .inr (0, [.ref m0, .ref c0, .ref e0, .ref q1, .long (lN vr)])), (m0, .inr (1, [.long (lN p), .int (nI n), .long (lN (px_r p 2))])), (q1, .inl (cL, 8, .inr (.inl (fun c => lN ((va_up mk cc a) c)))))]) (va_runVN (As := [.int (nI (cc + 1))]) (rest := []) ⟨hx, hb, hml, hown, hts⟩ (c_C_restart l dC dI cI cL H.size c0 k1 k2 k3 k4 k5 cc gc oc (cc + 1)) ⟨va_cnB 1 hts gi_C_restart rfl rfl rfl (hN _ kw_286) (hts _ kw_3) ⟨by decide, by decide, by decide⟩ ⟨Nat.le_of_ble_eq_true rfl, Nat.le_of_ble_eq_true rfl⟩, hts _ kw_288, hts _ ks_C_restart⟩ (wq_preVW hP hD hK hN [2] rfl rfl (q0 := 2) (ci := 2) rfl rfl rfl) rfl rfl hl.1 rfl (lv_room (Nat.le_of_ble_eq_true rfl)) d_S_channel_43 ⟨Nat.le_of_ble_eq_true rfl, Nat.le_of_ble_eq_true rfl⟩) hP hD hS hA [2] [0, 1, 3] rfl rfl rfl (by decide) (fun u H locs hq hP hD hS hz => ?_)
  have hP : va_P (dC, dI) classes [(s0, .inr (0, [.ref m0, .ref c0, .ref e0, .ref q1, .long (lN vr)])), (m0, .inr (1, [.long (lN p), .int (nI n), .long (lN (px_r p 2))])), (q1, .inl (cL, 8, .inr (.inl (fun c => lN ((va_up mk cc a) c))))), (c0, .inr (2, [.ref k1, .ref k2, .ref k3, .ref k4, .ref k5, .int (nI (cc + 1)), .int (nI 0), .int (nI 0)]))] H := hP
  have hD : va_D A [(s0, .inr (0, [.ref m0, .ref c0, .ref e0, .ref q1, .long (lN vr)])), (m0, .inr (1, [.long (lN p), .int (nI n), .long (lN (px_r p 2))])), (q1, .inl (cL, 8, .inr (.inl (fun c => lN ((va_up mk cc a) c))))), (c0, .inr (2, [.ref k1, .ref k2, .ref k3, .ref k4, .ref k5, .int (nI (cc + 1)), .int (nI 0), .int (nI 0)]))] := hD
  refine lv_iload_n hx hb d_S_channel_46 rfl (lv_at hl 0 rfl) ?_
  have hP := hP.sub (ws' := [(s0, .inr (0, [.ref m0, .ref c0, .ref e0, .ref q1, .long (lN vr)])), (m0, .inr (1, [.long (lN p), .int (nI n), .long (lN (px_r p 2))])), (c0, .inr (2, [.ref k1, .ref k2, .ref k3, .ref k4, .ref k5, .int (nI (cc + 1)), .int (nI 0), .int (nI 0)])), (q1, .inl (cL, 8, .inr (.inl (fun c => lN ((va_up mk cc a) c)))))]) [0, 1, 3, 2] rfl
  have hD := hD.sub (ws' := [(s0, .inr (0, [.ref m0, .ref c0, .ref e0, .ref q1, .long (lN vr)])), (m0, .inr (1, [.long (lN p), .int (nI n), .long (lN (px_r p 2))])), (c0, .inr (2, [.ref k1, .ref k2, .ref k3, .ref k4, .ref k5, .int (nI (cc + 1)), .int (nI 0), .int (nI 0)])), (q1, .inl (cL, 8, .inr (.inl (fun c => lN ((va_up mk cc a) c)))))]) [0, 1, 3, 2] (by decide) rfl
  exact W.iret (v := nI cc) hx hb hr (fun t ht hW => ⟨⟨nI cc, (), rfl, rfl, by rw [ht]; exact hP, va_K.moved hW.alike hK, hD⟩, hS.F ht⟩) hS.2.2 d_S_channel_47
set_option maxHeartbeats 4000000 in
set_option maxRecDepth 100000 in
theorem x_S_channelA (l : Launch) (dC : Nat → ClassId) (dI : Nat → Nat → Nat) (cI cL : ClassId) (hlt : l.stackTraces = false) (sz : Nat) (s0 m0 c0 e0 q1 : Nat) (vr : Nat) (p n : Nat) (hm : md p n) (a : Nat) (ha2 : a < 2 ^ 64) (ha : ¬ a < 2 ^ n) : vx_Met l y_S_channel w_S_channel ({ frames := 7, cells := 1, slots := 6, locals := 104 } : Room) (va_Pc [.ref s0, .long (lN a)] (wq_X (dC, dI) classes [(s0, .inr (0, [.ref m0, .ref c0, .ref e0, .ref q1, .long (lN vr)])), (m0, .inr (1, [.long (lN p), .int (nI n), .long (lN (px_r p 2))]))] [(cI, .int), (cL, .long)] sz)) (xq_i sz) (xq "java/lang/IllegalArgumentException" sz) 1 6 (fun q => sz ≤ q) := by
  refine vx_ofW (cc := b_S_channel) (maxL := 4) (ret := (Option.some Jvm.ClassFile.FieldType.int)) (by decide) rfl ?_
  intro pg en st mm ar bw me co s₁ B hml hex hv
  obtain ⟨rfl, hsz, ⟨hP, hK, hN⟩, hE, hZ⟩ := hv
  subst hsz
  have hx := B.exec
  have hb := B.bytes
  have hr := B.returns
  have hlocks := B.notSynchronized
  have hts0 := atoms_spec (ws := w_S_channel) B.pre
  have hts : ∀ w ∈ gw, w.before _ st = true := fun w h => hts0 w (List.mem_cons_of_mem _ h)
  have hown : st.vm.findClass R_S = some mm.cls := findClass_of_methodNamed B.named
  have hl := lv_entry ([.ref s0, .long (lN a)]) (n := 4) (Nat.le_of_ble_eq_true rfl)
  rw [lg_entry_eq]
  generalize (lg_sl ([.ref s0, .long (lN a)]) ++ List.replicate (4 - (lg_sl ([.ref s0, .long (lN a)])).length) Slot.unset).toArray = ls at hl ⊢
  have hl : lv_has ls 4 [(0, .ref s0), (1, .long (lN a))] := hl
  refine lv_aload_n hx hb d_S_channel_0 rfl (lv_at hl 0 rfl) ?_
  refine lv_lload_n hx hb d_S_channel_1 rfl (lv_at hl 1 rfl) ?_
  exact xq_cv (cells := 0) (slots := 0) (mc := 1) (ms := 6) (MC := 1) (MS := 6) (vx_runV (As := [.long (lN a)]) (rest := []) ⟨hx, hb, hml, hown, hts⟩ (x_S_requireResidue l dC dI cI cL hlt st.heap.size s0 m0 c0 e0 q1 vr p n a hm ha2 ha) (cwV 1 hts (gi_V kw_297 kw_299 ks_S_requireResidue kw_1 gi_S_requireResidue) rfl rfl rfl ⟨rfl, by decide, by decide, by decide⟩ ⟨Nat.le_of_ble_eq_true rfl, Nat.le_of_ble_eq_true rfl⟩) (wq_preVX hP hK hN hE hZ [0, 1] rfl (q0 := 0) (ci := 0) rfl rfl rfl) rfl rfl hl.1 rfl (lv_room (Nat.le_of_ble_eq_true rfl)) d_S_channel_2 ⟨Nat.le_of_ble_eq_true rfl, Nat.le_of_ble_eq_true rfl⟩) hex hlocks (Nat.le_of_ble_eq_true rfl) (Nat.le_of_ble_eq_true rfl)
set_option maxHeartbeats 4000000 in
set_option maxRecDepth 100000 in
theorem x_S_channelF (l : Launch) (dC : Nat → ClassId) (dI : Nat → Nat → Nat) (cI cL : ClassId) (hlt : l.stackTraces = false) (sz : Nat) (s0 m0 c0 e0 q1 : Nat) (vr : Nat) (p n : Nat) (hm : md p n) (k1 k2 k3 k4 k5 : Nat) (cc gc oc : Nat) (a : Nat) (ha : a < 2 ^ n) (hcc : cc = 8) : vx_Met l y_S_channel w_S_channel ({ frames := 6, cells := 1, slots := 6, locals := 82 } : Room) (va_Pc [.ref s0, .long (lN a)] (wq_X (dC, dI) classes [(s0, .inr (0, [.ref m0, .ref c0, .ref e0, .ref q1, .long (lN vr)])), (m0, .inr (1, [.long (lN p), .int (nI n), .long (lN (px_r p 2))])), (c0, .inr (2, [.ref k1, .ref k2, .ref k3, .ref k4, .ref k5, .int (nI cc), .int (nI gc), .int (nI oc)]))] [(cI, .int), (cL, .long)] sz)) (xq_i sz) (xq "java/lang/IllegalStateException" sz) 1 6 (fun q => sz ≤ q) := by
  refine vx_ofW (cc := b_S_channel) (maxL := 4) (ret := (Option.some Jvm.ClassFile.FieldType.int)) (by decide) rfl ?_
  intro pg en st mm ar bw me co s₁ B hml hex hv
  obtain ⟨rfl, hsz, ⟨hP, hK, hN⟩, hE, hZ⟩ := hv
  subst hsz
  have hx := B.exec
  have hb := B.bytes
  have hr := B.returns
  have hlocks := B.notSynchronized
  have hts0 := atoms_spec (ws := w_S_channel) B.pre
  have hts : ∀ w ∈ gw, w.before _ st = true := fun w h => hts0 w (List.mem_cons_of_mem _ h)
  have hown : st.vm.findClass R_S = some mm.cls := findClass_of_methodNamed B.named
  have hl := lv_entry ([.ref s0, .long (lN a)]) (n := 4) (Nat.le_of_ble_eq_true rfl)
  rw [lg_entry_eq]
  generalize (lg_sl ([.ref s0, .long (lN a)]) ++ List.replicate (4 - (lg_sl ([.ref s0, .long (lN a)])).length) Slot.unset).toArray = ls at hl ⊢
  have hl : lv_has ls 4 [(0, .ref s0), (1, .long (lN a))] := hl
  subst hcc
  refine lv_aload_n hx hb d_S_channel_0 rfl (lv_at hl 0 rfl) ?_
  refine lv_lload_n hx hb d_S_channel_1 rfl (lv_at hl 1 rfl) ?_
  refine va_csv (va_Run.run (va_runV (As := [.long (lN a)]) (rest := []) ⟨hx, hb, hml, hown, hts⟩ (c_S_requireResidue l dC dI cI cL s0 m0 c0 e0 q1 vr p n a hm ha) (cwV 1 hts (gi_V kw_297 kw_299 ks_S_requireResidue kw_1 gi_S_requireResidue) rfl rfl rfl ⟨rfl, by decide, by decide, by decide⟩ ⟨Nat.le_of_ble_eq_true rfl, Nat.le_of_ble_eq_true rfl⟩) (wq_preVR hP hK hN [0, 1] rfl (q0 := 0) (ci := 0) rfl rfl rfl) rfl rfl hl.1 rfl (lv_room (Nat.le_of_ble_eq_true rfl)) d_S_channel_2 ⟨Nat.le_of_ble_eq_true rfl, Nat.le_of_ble_eq_true rfl⟩)) (fun q1_ => ?_)
  refine lv_aload_n hx hb d_S_channel_5 rfl (lv_at hl 0 rfl) ?_
  refine va_get (D := (dC, dI)) (ci := 0) (v := .ref c0) (C := R_S) (T := F_S) (N := 5) hx hb hts in_S hown hK hP 0 rfl rfl 1 (by decide) (hts _ kw_95) (fun _ h9 => h9) rfl d_S_channel_6 ?_
  refine va_getN (D := (dC, dI)) (ci := 2) (v := .int (nI 8)) (C := R_C) (T := F_C) (N := 8) hx hb hts in_C hown hK hP 2 rfl rfl 5 (by decide) (nw_use hN kw_55) (fun _ h9 => h9) rfl d_S_channel_9 ?_
  refine lv_istore_n (lv' := [(3, .int (nI 8)), (0, .ref s0), (1, .long (lN a))]) hx hb d_S_channel_12 rfl hl (by decide) rfl (fun ls hl => ?_)
  refine lv_iload_n hx hb d_S_channel_13 rfl (lv_at hl 0 rfl) ?_
  refine lv_bipush (v := nI 8) hx hb d_S_channel_14 (by decide) ?_
  refine lv_icmp_lt (tgt := 29) hx hb d_S_channel_16 (by decide) (fun hc => absurd hc (show ¬ nI 8 < nI 8 from by decide)) (fun _ => ?_)
  obtain ⟨sa, hstr⟩ := hE.2 _ xs_102
  exact vx_throwS (R := (headSpec w_S_channel ({ frames := 6, cells := 1, slots := 6, locals := 82 } : Room)).room) (rest := []) (cells := 0) (slots := 0) (mc := 1) (ms := 6) (names := ["java/lang/RuntimeException", "java/lang/Exception"]) hx hb hlt hown (by decide) (by decide) (hts _ xt_IS_k) (hts _ xt_IS_i) hstr (xt_IS hts hE) xt_IS_o hZ.1 hZ.2 va_S.rf (hl.1.trans hml.symm) d_S_channel_19 d_S_channel_22 d_S_channel_23 d_S_channel_25 d_S_channel_28 (fun x hx => (hex x hx).elim) (Nat.le_of_ble_eq_true rfl) (Nat.le_of_ble_eq_true rfl) (Nat.le_of_ble_eq_true rfl) (Nat.le_of_ble_eq_true rfl) hlocks xq_hx (fun _ h => nomatch h) (Nat.le_of_ble_eq_true rfl) (Nat.le_of_ble_eq_true rfl)
set_option maxHeartbeats 4000000 in
set_option maxRecDepth 100000 in
theorem c_S_polynomial (l : Launch) (dC : Nat → ClassId) (dI : Nat → Nat → Nat) (cI cL : ClassId) (sz : Nat) (s0 m0 c0 e0 q1 : Nat) (vr : Nat) (p0 n0 : Nat) (k1 k2 k3 k4 k5 : Nat) (cc gc oc : Nat) (p n : Nat) (hm : md p n) : Met l y_S_polynomial w_S_polynomial ({ frames := 6, cells := 0, slots := 0, locals := 135 } : Room) (va_Pc [.ref s0, .long (lN p)] (wq_W (dC, dI) classes [(s0, .inr (0, [.ref m0, .ref c0, .ref e0, .ref q1, .long (lN vr)])), (m0, .inr (1, [.long (lN p0), .int (nI n0), .long (lN (px_r p0 2))])), (c0, .inr (2, [.ref k1, .ref k2, .ref k3, .ref k4, .ref k5, .int (nI cc), .int (nI gc), .int (nI oc)]))] [(cI, .int), (cL, .long)] sz)) (va_Qi (fun (r : Int32) (u : Unit) => r = nI n) (fun (u : Unit) t => wq_B (dC, dI) classes [(cI, .int), (cL, .long)] (va_A [(s0, .inr (0, [.ref m0, .ref c0, .ref e0, .ref q1, .long (lN vr)])), (m0, .inr (1, [.long (lN p0), .int (nI n0), .long (lN (px_r p0 2))])), (c0, .inr (2, [.ref k1, .ref k2, .ref k3, .ref k4, .ref k5, .int (nI cc), .int (nI gc), .int (nI oc)]))] sz) [(s0, .inr (0, [.ref m0, .ref c0, .ref e0, .ref q1, .long (lN 1)])), (m0, .inr (1, [.long (lN p), .int (nI n), .long (lN (px_r p 2))])), (c0, .inr (2, [.ref k1, .ref k2, .ref k3, .ref k4, .ref k5, .int (nI 0), .int (nI 0), .int (nI 0)]))] t) (va_A [(s0, .inr (0, [.ref m0, .ref c0, .ref e0, .ref q1, .long (lN vr)])), (m0, .inr (1, [.long (lN p0), .int (nI n0), .long (lN (px_r p0 2))])), (c0, .inr (2, [.ref k1, .ref k2, .ref k3, .ref k4, .ref k5, .int (nI cc), .int (nI gc), .int (nI oc)]))] sz)) 0 0 (va_A [(s0, .inr (0, [.ref m0, .ref c0, .ref e0, .ref q1, .long (lN vr)])), (m0, .inr (1, [.long (lN p0), .int (nI n0), .long (lN (px_r p0 2))])), (c0, .inr (2, [.ref k1, .ref k2, .ref k3, .ref k4, .ref k5, .int (nI cc), .int (nI gc), .int (nI oc)]))] sz) := by
  refine Met.ofW (cc := b_S_polynomial) (maxL := 4) (ret := (Option.some Jvm.ClassFile.FieldType.int)) (by decide) rfl ?_
  intro pg en st mm ar bw me co s₁ B hml hv
  obtain ⟨rfl, hsz, hP, hK, hD0, hN⟩ := hv
  have hx := B.exec
  have hb := B.bytes
  have hr := B.returns
  have hlocks := B.notSynchronized
  have hts0 := atoms_spec (ws := w_S_polynomial) B.pre
  have hts : ∀ w ∈ gw, w.before _ st = true := fun w h => hts0 w (List.mem_cons_of_mem _ h)
  have hown : st.vm.findClass R_S = some mm.cls := findClass_of_methodNamed B.named
  subst hsz
  have hD := hD0.self (sz := st.heap.size)
  generalize hAe : va_A [(s0, .inr (0, [.ref m0, .ref c0, .ref e0, .ref q1, .long (lN vr)])), (m0, .inr (1, [.long (lN p0), .int (nI n0), .long (lN (px_r p0 2))])), (c0, .inr (2, [.ref k1, .ref k2, .ref k3, .ref k4, .ref k5, .int (nI cc), .int (nI gc), .int (nI oc)]))] st.heap.size = A at hD ⊢
  have hA : ∀ q : Nat, st.heap.size ≤ q → A q := fun q h => by rw [← hAe]; exact Or.inr h
  have hS : va_S A st.heap st.heap [] := va_S.rf
  have hl := lv_entry ([.ref s0, .long (lN p)]) (n := 4) (Nat.le_of_ble_eq_true rfl)
  rw [lg_entry_eq]
  generalize (lg_sl ([.ref s0, .long (lN p)]) ++ List.replicate (4 - (lg_sl ([.ref s0, .long (lN p)])).length) Slot.unset).toArray = ls at hl ⊢
  have hl : lv_has ls 4 [(0, .ref s0), (1, .long (lN p))] := hl
  have hn1 := hm.1
  have hn2 := hm.2.1
  refine lv_lload_n hx hb d_S_polynomial_0 rfl (lv_at hl 1 rfl) ?_
  refine vp_callSi (va_Run.run (va_runSN (As := [.long (lN p)]) (rest := []) ⟨hx, hb, hml, hown, hts⟩ (c_M_degreeOf l p (md_lt hm)) ⟨va_cnB 1 hts gi_M_degreeOf rfl rfl rfl (hN _ kw_211) (hts _ kw_2) ⟨by decide, by decide, by decide⟩ ⟨Nat.le_of_ble_eq_true rfl, Nat.le_of_ble_eq_true rfl⟩, hts _ kw_122, trivial⟩ wq_preS0 rfl rfl hl.1 rfl (lv_room (Nat.le_of_ble_eq_true rfl)) d_S_polynomial_1 ⟨Nat.le_of_ble_eq_true rfl, Nat.le_of_ble_eq_true rfl⟩)) (fun r hq => ?_)
  have hq : r = nI n := hq.trans (md_jm hm)
  subst hq
  refine lv_istore_n (lv' := [(3, .int (nI n)), (0, .ref s0), (1, .long (lN p))]) hx hb d_S_polynomial_4 rfl hl (by decide) rfl (fun ls hl => ?_)
  refine lv_iload_n hx hb d_S_polynomial_5 rfl (lv_at hl 0 rfl) ?_
  refine lv_iconst (v := nI 1) hx hb d_S_polynomial_6 (by decide) ?_
  refine lv_icmp_lt (tgt := 24) hx hb d_S_polynomial_7 (by decide) (fun hc => absurd hc (fun z => absurd ((nI_ltI (by omega) (by decide)).mp z) (by omega))) (fun _ => ?_)
  refine lv_iload_n hx hb d_S_polynomial_10 rfl (lv_at hl 0 rfl) ?_
  refine lv_bipush (v := nI 32) hx hb d_S_polynomial_11 (by decide) ?_
  refine lv_icmp_gt (tgt := 24) hx hb d_S_polynomial_13 (by decide) (fun hc => absurd hc (fun z => absurd ((nI_ltI (by decide) (by omega)).mp z) (by omega))) (fun _ => ?_)
  refine lv_lload_n hx hb d_S_polynomial_16 rfl (lv_at hl 2 rfl) ?_
  refine lv_lconst (v := lN 1) hx hb d_S_polynomial_17 (by decide) ?_
  refine lv_land hx hb d_S_polynomial_18 ?_
  refine lv_topl (nm_r (show _ = lN (p % 2) from g1_and (md_lt hm)) ?_)
  refine lv_lconst (v := lN 0) hx hb d_S_polynomial_19 (by decide) ?_
  refine W.lcmp hx hb d_S_polynomial_20 ?_
  refine lv_if_ne (tgt := 34) hx hb d_S_polynomial_21 (by decide) (fun _ => ?_) (fun hc => absurd hc (fun z => lN_b0.mp (cmq_eq z) (md_odd hm)))
  refine lv_aload_n hx hb d_S_polynomial_34 rfl (lv_at hl 1 rfl) ?_
  refine va_get (D := (dC, dI)) (ci := 0) (v := .ref m0) (C := R_S) (T := F_S) (N := 5) hx hb hts in_S hown hK hP 0 rfl rfl 0 (by decide) (hts _ kw_94) (fun _ h9 => h9) rfl d_S_polynomial_35 ?_
  refine lv_lload_n hx hb d_S_polynomial_38 rfl (lv_at hl 2 rfl) ?_
  refine wq_v (wr := [(s0, .inr (0, [.ref m0, .ref c0, .ref e0, .ref q1, .long (lN vr)])), (c0, .inr (2, [.ref k1, .ref k2, .ref k3, .ref k4, .ref k5, .int (nI cc), .int (nI gc), .int (nI oc)]))]) (va_runVN (As := [.long (lN p)]) (rest := []) ⟨hx, hb, hml, hown, hts⟩ (c_M_become l dC dI cI cL st.heap.size m0 p0 n0 (px_r p0 2) p n hm) ⟨va_cnB 1 hts gi_M_become rfl rfl rfl (hN _ kw_280) (hts _ kw_2) ⟨by decide, by decide, by decide⟩ ⟨Nat.le_of_ble_eq_true rfl, Nat.le_of_ble_eq_true rfl⟩, hts _ kw_282, hts _ ks_M_become⟩ (wq_preVW hP hD hK hN [1] rfl rfl (q0 := 1) (ci := 1) rfl rfl rfl) rfl rfl hl.1 rfl (lv_room (Nat.le_of_ble_eq_true rfl)) d_S_polynomial_39 ⟨Nat.le_of_ble_eq_true rfl, Nat.le_of_ble_eq_true rfl⟩) hP hD hS hA [1] [0, 2] rfl rfl rfl (by decide) (fun u H locs hq hP hD hS hz => ?_)
  have hP : va_P (dC, dI) classes [(s0, .inr (0, [.ref m0, .ref c0, .ref e0, .ref q1, .long (lN vr)])), (c0, .inr (2, [.ref k1, .ref k2, .ref k3, .ref k4, .ref k5, .int (nI cc), .int (nI gc), .int (nI oc)])), (m0, .inr (1, [.long (lN p), .int (nI n), .long (lN (px_r p 2))]))] H := hP
  have hD : va_D A [(s0, .inr (0, [.ref m0, .ref c0, .ref e0, .ref q1, .long (lN vr)])), (c0, .inr (2, [.ref k1, .ref k2, .ref k3, .ref k4, .ref k5, .int (nI cc), .int (nI gc), .int (nI oc)])), (m0, .inr (1, [.long (lN p), .int (nI n), .long (lN (px_r p 2))]))] := hD
  refine lv_aload_n hx hb d_S_polynomial_42 rfl (lv_at hl 1 rfl) ?_
  refine lv_lconst (v := lN 1) hx hb d_S_polynomial_43 (by decide) ?_
  refine va_put (D := (dC, dI)) (ci := 0) (v := .long (lN 1)) (ty := .long) (C := R_S) (T := F_S) (N := 5) hx hb hts in_S t_S t_S_ok n_S hown hK hP hD hS 0 rfl rfl 4 (by decide) (hts _ kw_98) (fun _ h9 => h9) rfl (by decide +kernel) rfl rfl (Nat.le_of_ble_eq_true rfl) d_S_polynomial_44 (fun H locs hP hD hS => ?_)
  have hP : va_P (dC, dI) classes [(s0, .inr (0, [.ref m0, .ref c0, .ref e0, .ref q1, .long (lN 1)])), (c0, .inr (2, [.ref k1, .ref k2, .ref k3, .ref k4, .ref k5, .int (nI cc), .int (nI gc), .int (nI oc)])), (m0, .inr (1, [.long (lN p), .int (nI n), .long (lN (px_r p 2))]))] H := hP
  have hD : va_D A [(s0, .inr (0, [.ref m0, .ref c0, .ref e0, .ref q1, .long (lN 1)])), (c0, .inr (2, [.ref k1, .ref k2, .ref k3, .ref k4, .ref k5, .int (nI cc), .int (nI gc), .int (nI oc)])), (m0, .inr (1, [.long (lN p), .int (nI n), .long (lN (px_r p 2))]))] := hD
  refine lv_aload_n hx hb d_S_polynomial_47 rfl (lv_at hl 1 rfl) ?_
  refine va_get (D := (dC, dI)) (ci := 0) (v := .ref c0) (C := R_S) (T := F_S) (N := 5) hx hb hts in_S hown hK hP 0 rfl rfl 1 (by decide) (hts _ kw_95) (fun _ h9 => h9) rfl d_S_polynomial_48 ?_
  refine lv_iconst (v := nI 0) hx hb d_S_polynomial_51 (by decide) ?_
  refine wq_v (wr := [(s0, .inr (0, [.ref m0, .ref c0, .ref e0, .ref q1, .long (lN 1)])), (m0, .inr (1, [.long (lN p), .int (nI n), .long (lN (px_r p 2))]))]) (va_runVN (As := [.int (nI 0)]) (rest := []) ⟨hx, hb, hml, hown, hts⟩ (c_C_restart l dC dI cI cL H.size c0 k1 k2 k3 k4 k5 cc gc oc 0) ⟨va_cnB 1 hts gi_C_restart rfl rfl rfl (hN _ kw_286) (hts _ kw_3) ⟨by decide, by decide, by decide⟩ ⟨Nat.le_of_ble_eq_true rfl, Nat.le_of_ble_eq_true rfl⟩, hts _ kw_288, hts _ ks_C_restart⟩ (wq_preVW hP hD hK hN [1] rfl rfl (q0 := 1) (ci := 2) rfl rfl rfl) rfl rfl hl.1 rfl (lv_room (Nat.le_of_ble_eq_true rfl)) d_S_polynomial_52 ⟨Nat.le_of_ble_eq_true rfl, Nat.le_of_ble_eq_true rfl⟩) hP hD hS hA [1] [0, 2] rfl rfl rfl (by decide) (fun u H locs hq hP hD hS hz => ?_)
  have hP : va_P (dC, dI) classes [(s0, .inr (0, [.ref m0, .ref c0, .ref e0, .ref q1, .long (lN 1)])), (m0, .inr (1, [.long (lN p), .int (nI n), .long (lN (px_r p 2))])), (c0, .inr (2, [.ref k1, .ref k2, .ref k3, .ref k4, .ref k5, .int (nI 0), .int (nI 0), .int (nI 0)]))] H := hP
  have hD : va_D A [(s0, .inr (0, [.ref m0, .ref c0, .ref e0, .ref q1, .long (lN 1)])), (m0, .inr (1, [.long (lN p), .int (nI n), .long (lN (px_r p 2))])), (c0, .inr (2, [.ref k1, .ref k2, .ref k3, .ref k4, .ref k5, .int (nI 0), .int (nI 0), .int (nI 0)]))] := hD
  refine lv_iload_n hx hb d_S_polynomial_55 rfl (lv_at hl 0 rfl) ?_
  have hP := hP.sub (ws' := [(s0, .inr (0, [.ref m0, .ref c0, .ref e0, .ref q1, .long (lN 1)])), (m0, .inr (1, [.long (lN p), .int (nI n), .long (lN (px_r p 2))])), (c0, .inr (2, [.ref k1, .ref k2, .ref k3, .ref k4, .ref k5, .int (nI 0), .int (nI 0), .int (nI 0)]))]) [0, 1, 2] rfl
  have hD := hD.sub (ws' := [(s0, .inr (0, [.ref m0, .ref c0, .ref e0, .ref q1, .long (lN 1)])), (m0, .inr (1, [.long (lN p), .int (nI n), .long (lN (px_r p 2))])), (c0, .inr (2, [.ref k1, .ref k2, .ref k3, .ref k4, .ref k5, .int (nI 0), .int (nI 0), .int (nI 0)]))]) [0, 1, 2] (by decide) rfl
  exact W.iret (v := nI n) hx hb hr (fun t ht hW => ⟨⟨nI n, (), rfl, rfl, by rw [ht]; exact hP, va_K.moved hW.alike hK, hD⟩, hS.F ht⟩) hS.2.2 d_S_polynomial_56
set_option maxHeartbeats 4000000 in
set_option maxRecDepth 100000 in
theorem x_S_polynomial (l : Launch) (dC : Nat → ClassId) (dI : Nat → Nat → Nat) (cI cL : ClassId) (hlt : l.stackTraces = false) (sz : Nat) (s0 m0 c0 e0 q1 : Nat) (vr : Nat) (p : Nat) (hp0 : p < 2 ^ 64) (hbad : ∀ n, ¬ md p n) : vx_Met l y_S_polynomial w_S_polynomial ({ frames := 6, cells := 1, slots := 6, locals := 82 } : Room) (va_Pc [.ref s0, .long (lN p)] (wq_X (dC, dI) classes [(s0, .inr (0, [.ref m0, .ref c0, .ref e0, .ref q1, .long (lN vr)]))] [(cI, .int), (cL, .long)] sz)) (xq_i sz) (xq "java/lang/IllegalArgumentException" sz) 1 6 (fun q => sz ≤ q) := by
  refine vx_ofW (cc := b_S_polynomial) (maxL := 4) (ret := (Option.some Jvm.ClassFile.FieldType.int)) (by decide) rfl ?_
  intro pg en st mm ar bw me co s₁ B hml hex hv
  obtain ⟨rfl, hsz, ⟨hP, hK, hN⟩, hE, hZ⟩ := hv
  subst hsz
  have hx := B.exec
  have hb := B.bytes
  have hr := B.returns
  have hlocks := B.notSynchronized
  have hts0 := atoms_spec (ws := w_S_polynomial) B.pre
  have hts : ∀ w ∈ gw, w.before _ st = true := fun w h => hts0 w (List.mem_cons_of_mem _ h)
  have hown : st.vm.findClass R_S = some mm.cls := findClass_of_methodNamed B.named
  have hl := lv_entry ([.ref s0, .long (lN p)]) (n := 4) (Nat.le_of_ble_eq_true rfl)
  rw [lg_entry_eq]
  generalize (lg_sl ([.ref s0, .long (lN p)]) ++ List.replicate (4 - (lg_sl ([.ref s0, .long (lN p)])).length) Slot.unset).toArray = ls at hl ⊢
  have hl : lv_has ls 4 [(0, .ref s0), (1, .long (lN p))] := hl
  have hbl := blen_le hp0
  refine lv_lload_n hx hb d_S_polynomial_0 rfl (lv_at hl 1 rfl) ?_
  refine vp_callSi (va_Run.run (va_runSN (As := [.long (lN p)]) (rest := []) ⟨hx, hb, hml, hown, hts⟩ (c_M_degreeOf l p hp0) ⟨va_cnB 1 hts gi_M_degreeOf rfl rfl rfl (hN _ kw_211) (hts _ kw_2) ⟨by decide, by decide, by decide⟩ ⟨Nat.le_of_ble_eq_true rfl, Nat.le_of_ble_eq_true rfl⟩, hts _ kw_122, trivial⟩ wq_preS0 rfl rfl hl.1 rfl (lv_room (Nat.le_of_ble_eq_true rfl)) d_S_polynomial_1 ⟨Nat.le_of_ble_eq_true rfl, Nat.le_of_ble_eq_true rfl⟩)) (fun r hq => ?_)
  subst hq
  refine lv_istore_n (lv' := [(3, .int (jm (blen p))), (0, .ref s0), (1, .long (lN p))]) hx hb d_S_polynomial_4 rfl hl (by decide) rfl (fun ls hl => ?_)
  refine lv_iload_n hx hb d_S_polynomial_5 rfl (lv_at hl 0 rfl) ?_
  refine lv_iconst (v := nI 1) hx hb d_S_polynomial_6 (by decide) ?_
  refine lv_icmp_lt (tgt := 24) hx hb d_S_polynomial_7 (by decide) (fun h1 => ?_) (fun h1 => ?_)
  · obtain ⟨sa, hstr⟩ := hE.2 _ xs_44
    exact vx_throwS (R := (headSpec w_S_polynomial ({ frames := 6, cells := 1, slots := 6, locals := 82 } : Room)).room) (rest := []) (cells := 0) (slots := 0) (mc := 1) (ms := 6) (names := ["java/lang/RuntimeException", "java/lang/Exception"]) hx hb hlt hown (by decide) (by decide) (hts _ xt_IA_k) (hts _ xt_IA_i) hstr (xt_IA hts hE) xt_IA_o hZ.1 hZ.2 va_S.rf (hl.1.trans hml.symm) d_S_polynomial_24 d_S_polynomial_27 d_S_polynomial_28 d_S_polynomial_30 d_S_polynomial_33 (fun x hx => (hex x hx).elim) (Nat.le_of_ble_eq_true rfl) (Nat.le_of_ble_eq_true rfl) (Nat.le_of_ble_eq_true rfl) (Nat.le_of_ble_eq_true rfl) hlocks xq_hx (fun _ h => nomatch h) (Nat.le_of_ble_eq_true rfl) (Nat.le_of_ble_eq_true rfl)
  · have h1 : ¬ blen p ≤ 1 := fun z => h1 ((jm_lt (by omega) (by decide)).mpr z)
    obtain ⟨d, hd⟩ : ∃ d, blen p = d + 1 := ⟨blen p - 1, by omega⟩
    have e9 : (jm (blen p)) = (nI d) := by rw [hd]; exact jm_succ d
    have hl : lv_has ls 4 [(3, .int (nI d)), (0, .ref s0), (1, .long (lN p))] := by rw [← e9]; exact hl
    refine lv_iload_n hx hb d_S_polynomial_10 rfl (lv_at hl 0 rfl) ?_
    refine lv_bipush (v := nI 32) hx hb d_S_polynomial_11 (by decide) ?_
    refine lv_icmp_gt (tgt := 24) hx hb d_S_polynomial_13 (by decide) (fun h2 => ?_) (fun h2 => ?_)
    · obtain ⟨sa, hstr⟩ := hE.2 _ xs_44
      exact vx_throwS (R := (headSpec w_S_polynomial ({ frames := 6, cells := 1, slots := 6, locals := 82 } : Room)).room) (rest := []) (cells := 0) (slots := 0) (mc := 1) (ms := 6) (names := ["java/lang/RuntimeException", "java/lang/Exception"]) hx hb hlt hown (by decide) (by decide) (hts _ xt_IA_k) (hts _ xt_IA_i) hstr (xt_IA hts hE) xt_IA_o hZ.1 hZ.2 va_S.rf (hl.1.trans hml.symm) d_S_polynomial_24 d_S_polynomial_27 d_S_polynomial_28 d_S_polynomial_30 d_S_polynomial_33 (fun x hx => (hex x hx).elim) (Nat.le_of_ble_eq_true rfl) (Nat.le_of_ble_eq_true rfl) (Nat.le_of_ble_eq_true rfl) (Nat.le_of_ble_eq_true rfl) hlocks xq_hx (fun _ h => nomatch h) (Nat.le_of_ble_eq_true rfl) (Nat.le_of_ble_eq_true rfl)
    · have h2 : d ≤ 32 := Classical.byContradiction fun z => h2 ((nI_ltI (by decide) (by omega)).mpr (by omega))
      refine lv_lload_n hx hb d_S_polynomial_16 rfl (lv_at hl 2 rfl) ?_
      refine lv_lconst (v := lN 1) hx hb d_S_polynomial_17 (by decide) ?_
      refine lv_land hx hb d_S_polynomial_18 ?_
      refine lv_topl (nm_r (show _ = lN (p % 2) from g1_and hp0) ?_)
      refine lv_lconst (v := lN 0) hx hb d_S_polynomial_19 (by decide) ?_
      refine W.lcmp hx hb d_S_polynomial_20 ?_
      refine lv_if_ne (tgt := 34) hx hb d_S_polynomial_21 (by decide) (fun hc => absurd hc (fun z => z ((lg_cmp_eq _ _).mpr (lN_b0.mpr (fun q => hbad d (md_of hd (by omega) h2 q)))))) (fun _ => ?_)
      obtain ⟨sa, hstr⟩ := hE.2 _ xs_44
      exact vx_throwS (R := (headSpec w_S_polynomial ({ frames := 6, cells := 1, slots := 6, locals := 82 } : Room)).room) (rest := []) (cells := 0) (slots := 0) (mc := 1) (ms := 6) (names := ["java/lang/RuntimeException", "java/lang/Exception"]) hx hb hlt hown (by decide) (by decide) (hts _ xt_IA_k) (hts _ xt_IA_i) hstr (xt_IA hts hE) xt_IA_o hZ.1 hZ.2 va_S.rf (hl.1.trans hml.symm) d_S_polynomial_24 d_S_polynomial_27 d_S_polynomial_28 d_S_polynomial_30 d_S_polynomial_33 (fun x hx => (hex x hx).elim) (Nat.le_of_ble_eq_true rfl) (Nat.le_of_ble_eq_true rfl) (Nat.le_of_ble_eq_true rfl) (Nat.le_of_ble_eq_true rfl) hlocks xq_hx (fun _ h => nomatch h) (Nat.le_of_ble_eq_true rfl) (Nat.le_of_ble_eq_true rfl)
set_option maxHeartbeats 4000000 in
set_option maxRecDepth 100000 in
theorem c_S_gate5 (l : Launch) (dC : Nat → ClassId) (dI : Nat → Nat → Nat) (cI cL : ClassId) (sz : Nat) (s0 m0 c0 e0 q1 : Nat) (vr : Nat) (k1 k2 k3 k4 k5 : Nat) (cc gc oc : Nat) (kd lf rg ol : Nat → Nat) (hk : ck cc gc oc kd lf rg ol) (a : Nat) (y : Int32) (ha : a < cc + gc) (hgc : gc < 24) : Met l y_S_gate w_S_gate ({ frames := 2, cells := 0, slots := 0, locals := 44 } : Room) (va_Pc [.ref s0, .int (nI 5), .int (nI a), .int y] (wq_W (dC, dI) classes [(s0, .inr (0, [.ref m0, .ref c0, .ref e0, .ref q1, .long (lN vr)])), (c0, .inr (2, [.ref k1, .ref k2, .ref k3, .ref k4, .ref k5, .int (nI cc), .int (nI gc), .int (nI oc)])), (k1, .inl (cI, 24, .inl (fun c => nI (kd c)))), (k2, .inl (cI, 24, .inl (fun c => nI (lf c)))), (k3, .inl (cI, 24, .inl (fun c => nI (rg c))))] [(cI, .int), (cL, .long)] sz)) (va_Qi (fun (r : Int32) (u : Unit) => r = nI (cc + gc)) (fun (u : Unit) t => wq_B (dC, dI) classes [(cI, .int), (cL, .long)] (va_A [(s0, .inr (0, [.ref m0, .ref c0, .ref e0, .ref q1, .long (lN vr)])), (c0, .inr (2, [.ref k1, .ref k2, .ref k3, .ref k4, .ref k5, .int (nI cc), .int (nI gc), .int (nI oc)])), (k1, .inl (cI, 24, .inl (fun c => nI (kd c)))), (k2, .inl (cI, 24, .inl (fun c => nI (lf c)))), (k3, .inl (cI, 24, .inl (fun c => nI (rg c))))] sz) [(s0, .inr (0, [.ref m0, .ref c0, .ref e0, .ref q1, .long (lN vr)])), (c0, .inr (2, [.ref k1, .ref k2, .ref k3, .ref k4, .ref k5, .int (nI cc), .int (nI (gc + 1)), .int (nI oc)])), (k1, .inl (cI, 24, .inl (fun c => nI ((va_up kd gc 5) c)))), (k2, .inl (cI, 24, .inl (fun c => nI ((va_up lf gc a) c)))), (k3, .inl (cI, 24, .inl (fun c => nI ((va_up rg gc a) c))))] t) (va_A [(s0, .inr (0, [.ref m0, .ref c0, .ref e0, .ref q1, .long (lN vr)])), (c0, .inr (2, [.ref k1, .ref k2, .ref k3, .ref k4, .ref k5, .int (nI cc), .int (nI gc), .int (nI oc)])), (k1, .inl (cI, 24, .inl (fun c => nI (kd c)))), (k2, .inl (cI, 24, .inl (fun c => nI (lf c)))), (k3, .inl (cI, 24, .inl (fun c => nI (rg c))))] sz)) 0 0 (va_A [(s0, .inr (0, [.ref m0, .ref c0, .ref e0, .ref q1, .long (lN vr)])), (c0, .inr (2, [.ref k1, .ref k2, .ref k3, .ref k4, .ref k5, .int (nI cc), .int (nI gc), .int (nI oc)])), (k1, .inl (cI, 24, .inl (fun c => nI (kd c)))), (k2, .inl (cI, 24, .inl (fun c => nI (lf c)))), (k3, .inl (cI, 24, .inl (fun c => nI (rg c))))] sz) := by
  refine Met.ofW (cc := b_S_gate) (maxL := 5) (ret := (Option.some Jvm.ClassFile.FieldType.int)) (by decide) rfl ?_
  intro pg en st mm ar bw me co s₁ B hml hv
  obtain ⟨rfl, hsz, hP, hK, hD0, hN⟩ := hv
  have hx := B.exec
  have hb := B.bytes
  have hr := B.returns
  have hlocks := B.notSynchronized
  have hts0 := atoms_spec (ws := w_S_gate) B.pre
  have hts : ∀ w ∈ gw, w.before _ st = true := fun w h => hts0 w (List.mem_cons_of_mem _ h)
  have hown : st.vm.findClass R_S = some mm.cls := findClass_of_methodNamed B.named
  subst hsz
  have hD := hD0.self (sz := st.heap.size)
  generalize hAe : va_A [(s0, .inr (0, [.ref m0, .ref c0, .ref e0, .ref q1, .long (lN vr)])), (c0, .inr (2, [.ref k1, .ref k2, .ref k3, .ref k4, .ref k5, .int (nI cc), .int (nI gc), .int (nI oc)])), (k1, .inl (cI, 24, .inl (fun c => nI (kd c)))), (k2, .inl (cI, 24, .inl (fun c => nI (lf c)))), (k3, .inl (cI, 24, .inl (fun c => nI (rg c))))] st.heap.size = A at hD ⊢
  have hA : ∀ q : Nat, st.heap.size ≤ q → A q := fun q h => by rw [← hAe]; exact Or.inr h
  have hS : va_S A st.heap st.heap [] := va_S.rf
  have hl := lv_entry ([.ref s0, .int (nI 5), .int (nI a), .int y]) (n := 5) (Nat.le_of_ble_eq_true rfl)
  rw [lg_entry_eq]
  generalize (lg_sl ([.ref s0, .int (nI 5), .int (nI a), .int y]) ++ List.replicate (5 - (lg_sl ([.ref s0, .int (nI 5), .int (nI a), .int y])).length) Slot.unset).toArray = ls at hl ⊢
  have hl : lv_has ls 5 [(0, .ref s0), (1, .int (nI 5)), (2, .int (nI a)), (3, .int y)] := hl
  have h1 := hk.1
  have h2 := hk.2.1
  refine lv_iload_n hx hb d_S_gate_0 rfl (lv_at hl 1 rfl) ?_
  refine lv_if_lt (tgt := 9) hx hb d_S_gate_1 (by decide) (fun hc => absurd hc (nI_nn (by omega))) (fun _ => ?_)
  refine lv_iload_n hx hb d_S_gate_4 rfl (lv_at hl 1 rfl) ?_
  refine lv_iconst (v := nI 5) hx hb d_S_gate_5 (by decide) ?_
  refine lv_icmp_le (tgt := 19) hx hb d_S_gate_6 (by decide) (fun _ => ?_) (fun hc => absurd hc (fun z => z ((nI_leI (by omega) (by decide)).mpr (by omega))))
  refine lv_aload_n hx hb d_S_gate_19 rfl (lv_at hl 0 rfl) ?_
  refine lv_iload_n hx hb d_S_gate_20 rfl (lv_at hl 2 rfl) ?_
  refine va_csv (va_Run.run (va_runV (As := [.int (nI a)]) (rest := []) ⟨hx, hb, hml, hown, hts⟩ (c_S_requireLine l dC dI cI cL s0 m0 c0 e0 q1 vr k1 k2 k3 k4 k5 cc gc oc a ha (by omega)) (cwV 1 hts (gi_V kw_367 kw_369 ks_S_requireLine kw_1 gi_S_requireLine) rfl rfl rfl ⟨rfl, by decide, by decide, by decide⟩ ⟨Nat.le_of_ble_eq_true rfl, Nat.le_of_ble_eq_true rfl⟩) (wq_preVR hP hK hN [0, 1] rfl (q0 := 0) (ci := 0) rfl rfl rfl) rfl rfl hl.1 rfl (lv_room (Nat.le_of_ble_eq_true rfl)) d_S_gate_21 ⟨Nat.le_of_ble_eq_true rfl, Nat.le_of_ble_eq_true rfl⟩)) (fun q1_ => ?_)
  refine lv_iload_n hx hb d_S_gate_24 rfl (lv_at hl 1 rfl) ?_
  refine lv_iconst (v := nI 5) hx hb d_S_gate_25 (by decide) ?_
  refine lv_icmp_ne (tgt := 33) hx hb d_S_gate_26 (by decide) (fun hc => absurd hc (fun z => z rfl)) (fun _ => ?_)
  refine lv_iload_n hx hb d_S_gate_29 rfl (lv_at hl 2 rfl) ?_
  refine lv_goto (tgt := 34) hx hb d_S_gate_30 (by decide) ?_
  refine lv_istore (lv' := [(4, .int (nI a)), (0, .ref s0), (1, .int (nI 5)), (2, .int (nI a)), (3, .int y)]) hx hb d_S_gate_34 hl (by decide) rfl (fun ls hl => ?_)
  refine lv_aload_n hx hb d_S_gate_36 rfl (lv_at hl 1 rfl) ?_
  refine lv_iload hx hb d_S_gate_37 (lv_at hl 0 rfl) ?_
  refine va_csv (va_Run.run (va_runV (As := [.int (nI a)]) (rest := []) ⟨hx, hb, hml, hown, hts⟩ (c_S_requireLine l dC dI cI cL s0 m0 c0 e0 q1 vr k1 k2 k3 k4 k5 cc gc oc a ha (by omega)) (cwV 1 hts (gi_V kw_367 kw_369 ks_S_requireLine kw_1 gi_S_requireLine) rfl rfl rfl ⟨rfl, by decide, by decide, by decide⟩ ⟨Nat.le_of_ble_eq_true rfl, Nat.le_of_ble_eq_true rfl⟩) (wq_preVR hP hK hN [0, 1] rfl (q0 := 0) (ci := 0) rfl rfl rfl) rfl rfl hl.1 rfl (lv_room (Nat.le_of_ble_eq_true rfl)) d_S_gate_39 ⟨Nat.le_of_ble_eq_true rfl, Nat.le_of_ble_eq_true rfl⟩)) (fun q2_ => ?_)
  refine lv_aload_n hx hb d_S_gate_42 rfl (lv_at hl 1 rfl) ?_
  refine va_get (D := (dC, dI)) (ci := 0) (v := .ref c0) (C := R_S) (T := F_S) (N := 5) hx hb hts in_S hown hK hP 0 rfl rfl 1 (by decide) (hts _ kw_95) (fun _ h9 => h9) rfl d_S_gate_43 ?_
  refine va_getN (D := (dC, dI)) (ci := 2) (v := .int (nI gc)) (C := R_C) (T := F_C) (N := 8) hx hb hts in_C hown hK hP 1 rfl rfl 6 (by decide) (nw_use hN kw_57) (fun _ h9 => h9) rfl d_S_gate_46 ?_
  refine lv_bipush (v := nI 24) hx hb d_S_gate_49 (by decide) ?_
  refine lv_icmp_lt (tgt := 64) hx hb d_S_gate_51 (by decide) (fun _ => ?_) (fun hc => absurd hc (fun z => z ((nI_ltI (by omega) (by decide)).mpr hgc)))
  refine lv_aload_n hx hb d_S_gate_64 rfl (lv_at hl 1 rfl) ?_
  refine va_get (D := (dC, dI)) (ci := 0) (v := .ref c0) (C := R_S) (T := F_S) (N := 5) hx hb hts in_S hown hK hP 0 rfl rfl 1 (by decide) (hts _ kw_95) (fun _ h9 => h9) rfl d_S_gate_65 ?_
  refine lv_iload_n hx hb d_S_gate_68 rfl (lv_at hl 2 rfl) ?_
  refine lv_iload_n hx hb d_S_gate_69 rfl (lv_at hl 3 rfl) ?_
  refine lv_iload hx hb d_S_gate_70 (lv_at hl 0 rfl) ?_
  refine wq_i (wr := [(s0, .inr (0, [.ref m0, .ref c0, .ref e0, .ref q1, .long (lN vr)]))]) (va_runVN (As := [.int (nI 5), .int (nI a), .int (nI a)]) (rest := []) ⟨hx, hb, hml, hown, hts⟩ (c_C_addGate l dC dI cI cL st.heap.size c0 k1 k2 k3 k4 k5 cc gc oc kd lf rg ol hk 5 a a hgc) ⟨va_cnB 3 hts gi_C_addGate rfl rfl rfl (hN _ kw_392) (hts _ kw_3) ⟨by decide, by decide, by decide⟩ ⟨Nat.le_of_ble_eq_true rfl, Nat.le_of_ble_eq_true rfl⟩, hts _ kw_394, hts _ ks_C_addGate⟩ (wq_preVW hP hD hK hN [1, 2, 3, 4] rfl rfl (q0 := 1) (ci := 2) rfl rfl rfl) rfl rfl hl.1 rfl (lv_room (Nat.le_of_ble_eq_true rfl)) d_S_gate_72 ⟨Nat.le_of_ble_eq_true rfl, Nat.le_of_ble_eq_true rfl⟩) hP hD hS hA [1, 2, 3, 4] [0] rfl rfl rfl (by decide) (fun r u H locs hq hP hD hS hz => ?_)
  have hP : va_P (dC, dI) classes [(s0, .inr (0, [.ref m0, .ref c0, .ref e0, .ref q1, .long (lN vr)])), (c0, .inr (2, [.ref k1, .ref k2, .ref k3, .ref k4, .ref k5, .int (nI cc), .int (nI (gc + 1)), .int (nI oc)])), (k1, .inl (cI, 24, .inl (fun c => nI ((va_up kd gc 5) c)))), (k2, .inl (cI, 24, .inl (fun c => nI ((va_up lf gc a) c)))), (k3, .inl (cI, 24, .inl (fun c => nI ((va_up rg gc a) c))))] H := hP
  have hD : va_D A [(s0, .inr (0, [.ref m0, .ref c0, .ref e0, .ref q1, .long (lN vr)])), (c0, .inr (2, [.ref k1, .ref k2, .ref k3, .ref k4, .ref k5, .int (nI cc), .int (nI (gc + 1)), .int (nI oc)])), (k1, .inl (cI, 24, .inl (fun c => nI ((va_up kd gc 5) c)))), (k2, .inl (cI, 24, .inl (fun c => nI ((va_up lf gc a) c)))), (k3, .inl (cI, 24, .inl (fun c => nI ((va_up rg gc a) c))))] := hD
  subst hq
  have hP := hP.sub (ws' := [(s0, .inr (0, [.ref m0, .ref c0, .ref e0, .ref q1, .long (lN vr)])), (c0, .inr (2, [.ref k1, .ref k2, .ref k3, .ref k4, .ref k5, .int (nI cc), .int (nI (gc + 1)), .int (nI oc)])), (k1, .inl (cI, 24, .inl (fun c => nI ((va_up kd gc 5) c)))), (k2, .inl (cI, 24, .inl (fun c => nI ((va_up lf gc a) c)))), (k3, .inl (cI, 24, .inl (fun c => nI ((va_up rg gc a) c))))]) [0, 1, 2, 3, 4] rfl
  have hD := hD.sub (ws' := [(s0, .inr (0, [.ref m0, .ref c0, .ref e0, .ref q1, .long (lN vr)])), (c0, .inr (2, [.ref k1, .ref k2, .ref k3, .ref k4, .ref k5, .int (nI cc), .int (nI (gc + 1)), .int (nI oc)])), (k1, .inl (cI, 24, .inl (fun c => nI ((va_up kd gc 5) c)))), (k2, .inl (cI, 24, .inl (fun c => nI ((va_up lf gc a) c)))), (k3, .inl (cI, 24, .inl (fun c => nI ((va_up rg gc a) c))))]) [0, 1, 2, 3, 4] (by decide) rfl
  exact W.iret (v := nI (cc + gc)) hx hb hr (fun t ht hW => ⟨⟨nI (cc + gc), (), rfl, rfl, by rw [ht]; exact hP, va_K.moved hW.alike hK, hD⟩, hS.F ht⟩) hS.2.2 d_S_gate_75
set_option maxHeartbeats 4000000 in
set_option maxRecDepth 100000 in
theorem c_S_gateK (l : Launch) (dC : Nat → ClassId) (dI : Nat → Nat → Nat) (cI cL : ClassId) (sz : Nat) (s0 m0 c0 e0 q1 : Nat) (vr : Nat) (k1 k2 k3 k4 k5 : Nat) (cc gc oc : Nat) (kd lf rg ol : Nat → Nat) (hk : ck cc gc oc kd lf rg ol) (kk a b : Nat) (hkk : kk < 5) (ha : a < cc + gc) (hb2 : b < cc + gc) (hgc : gc < 24) : Met l y_S_gate w_S_gate ({ frames := 2, cells := 0, slots := 0, locals := 44 } : Room) (va_Pc [.ref s0, .int (nI kk), .int (nI a), .int (nI b)] (wq_W (dC, dI) classes [(s0, .inr (0, [.ref m0, .ref c0, .ref e0, .ref q1, .long (lN vr)])), (c0, .inr (2, [.ref k1, .ref k2, .ref k3, .ref k4, .ref k5, .int (nI cc), .int (nI gc), .int (nI oc)])), (k1, .inl (cI, 24, .inl (fun c => nI (kd c)))), (k2, .inl (cI, 24, .inl (fun c => nI (lf c)))), (k3, .inl (cI, 24, .inl (fun c => nI (rg c))))] [(cI, .int), (cL, .long)] sz)) (va_Qi (fun (r : Int32) (u : Unit) => r = nI (cc + gc)) (fun (u : Unit) t => wq_B (dC, dI) classes [(cI, .int), (cL, .long)] (va_A [(s0, .inr (0, [.ref m0, .ref c0, .ref e0, .ref q1, .long (lN vr)])), (c0, .inr (2, [.ref k1, .ref k2, .ref k3, .ref k4, .ref k5, .int (nI cc), .int (nI gc), .int (nI oc)])), (k1, .inl (cI, 24, .inl (fun c => nI (kd c)))), (k2, .inl (cI, 24, .inl (fun c => nI (lf c)))), (k3, .inl (cI, 24, .inl (fun c => nI (rg c))))] sz) [(s0, .inr (0, [.ref m0, .ref c0, .ref e0, .ref q1, .long (lN vr)])), (c0, .inr (2, [.ref k1, .ref k2, .ref k3, .ref k4, .ref k5, .int (nI cc), .int (nI (gc + 1)), .int (nI oc)])), (k1, .inl (cI, 24, .inl (fun c => nI ((va_up kd gc kk) c)))), (k2, .inl (cI, 24, .inl (fun c => nI ((va_up lf gc a) c)))), (k3, .inl (cI, 24, .inl (fun c => nI ((va_up rg gc b) c))))] t) (va_A [(s0, .inr (0, [.ref m0, .ref c0, .ref e0, .ref q1, .long (lN vr)])), (c0, .inr (2, [.ref k1, .ref k2, .ref k3, .ref k4, .ref k5, .int (nI cc), .int (nI gc), .int (nI oc)])), (k1, .inl (cI, 24, .inl (fun c => nI (kd c)))), (k2, .inl (cI, 24, .inl (fun c => nI (lf c)))), (k3, .inl (cI, 24, .inl (fun c => nI (rg c))))] sz)) 0 0 (va_A [(s0, .inr (0, [.ref m0, .ref c0, .ref e0, .ref q1, .long (lN vr)])), (c0, .inr (2, [.ref k1, .ref k2, .ref k3, .ref k4, .ref k5, .int (nI cc), .int (nI gc), .int (nI oc)])), (k1, .inl (cI, 24, .inl (fun c => nI (kd c)))), (k2, .inl (cI, 24, .inl (fun c => nI (lf c)))), (k3, .inl (cI, 24, .inl (fun c => nI (rg c))))] sz) := by
  refine Met.ofW (cc := b_S_gate) (maxL := 5) (ret := (Option.some Jvm.ClassFile.FieldType.int)) (by decide) rfl ?_
  intro pg en st mm ar bw me co s₁ B hml hv
  obtain ⟨rfl, hsz, hP, hK, hD0, hN⟩ := hv
  have hx := B.exec
  have hb := B.bytes
  have hr := B.returns
  have hlocks := B.notSynchronized
  have hts0 := atoms_spec (ws := w_S_gate) B.pre
  have hts : ∀ w ∈ gw, w.before _ st = true := fun w h => hts0 w (List.mem_cons_of_mem _ h)
  have hown : st.vm.findClass R_S = some mm.cls := findClass_of_methodNamed B.named
  subst hsz
  have hD := hD0.self (sz := st.heap.size)
  generalize hAe : va_A [(s0, .inr (0, [.ref m0, .ref c0, .ref e0, .ref q1, .long (lN vr)])), (c0, .inr (2, [.ref k1, .ref k2, .ref k3, .ref k4, .ref k5, .int (nI cc), .int (nI gc), .int (nI oc)])), (k1, .inl (cI, 24, .inl (fun c => nI (kd c)))), (k2, .inl (cI, 24, .inl (fun c => nI (lf c)))), (k3, .inl (cI, 24, .inl (fun c => nI (rg c))))] st.heap.size = A at hD ⊢
  have hA : ∀ q : Nat, st.heap.size ≤ q → A q := fun q h => by rw [← hAe]; exact Or.inr h
  have hS : va_S A st.heap st.heap [] := va_S.rf
  have hl := lv_entry ([.ref s0, .int (nI kk), .int (nI a), .int (nI b)]) (n := 5) (Nat.le_of_ble_eq_true rfl)
  rw [lg_entry_eq]
  generalize (lg_sl ([.ref s0, .int (nI kk), .int (nI a), .int (nI b)]) ++ List.replicate (5 - (lg_sl ([.ref s0, .int (nI kk), .int (nI a), .int (nI b)])).length) Slot.unset).toArray = ls at hl ⊢
  have hl : lv_has ls 5 [(0, .ref s0), (1, .int (nI kk)), (2, .int (nI a)), (3, .int (nI b))] := hl
  have h1 := hk.1
  have h2 := hk.2.1
  refine lv_iload_n hx hb d_S_gate_0 rfl (lv_at hl 1 rfl) ?_
  refine lv_if_lt (tgt := 9) hx hb d_S_gate_1 (by decide) (fun hc => absurd hc (nI_nn (by omega))) (fun _ => ?_)
  refine lv_iload_n hx hb d_S_gate_4 rfl (lv_at hl 1 rfl) ?_
  refine lv_iconst (v := nI 5) hx hb d_S_gate_5 (by decide) ?_
  refine lv_icmp_le (tgt := 19) hx hb d_S_gate_6 (by decide) (fun _ => ?_) (fun hc => absurd hc (fun z => z ((nI_leI (by omega) (by decide)).mpr (by omega))))
  refine lv_aload_n hx hb d_S_gate_19 rfl (lv_at hl 0 rfl) ?_
  refine lv_iload_n hx hb d_S_gate_20 rfl (lv_at hl 2 rfl) ?_
  refine va_csv (va_Run.run (va_runV (As := [.int (nI a)]) (rest := []) ⟨hx, hb, hml, hown, hts⟩ (c_S_requireLine l dC dI cI cL s0 m0 c0 e0 q1 vr k1 k2 k3 k4 k5 cc gc oc a ha (by omega)) (cwV 1 hts (gi_V kw_367 kw_369 ks_S_requireLine kw_1 gi_S_requireLine) rfl rfl rfl ⟨rfl, by decide, by decide, by decide⟩ ⟨Nat.le_of_ble_eq_true rfl, Nat.le_of_ble_eq_true rfl⟩) (wq_preVR hP hK hN [0, 1] rfl (q0 := 0) (ci := 0) rfl rfl rfl) rfl rfl hl.1 rfl (lv_room (Nat.le_of_ble_eq_true rfl)) d_S_gate_21 ⟨Nat.le_of_ble_eq_true rfl, Nat.le_of_ble_eq_true rfl⟩)) (fun q1_ => ?_)
  refine lv_iload_n hx hb d_S_gate_24 rfl (lv_at hl 1 rfl) ?_
  refine lv_iconst (v := nI 5) hx hb d_S_gate_25 (by decide) ?_
  refine lv_icmp_ne (tgt := 33) hx hb d_S_gate_26 (by decide) (fun _ => ?_) (fun hc => absurd hc (fun z => nI_5 hkk z))
  refine lv_iload_n hx hb d_S_gate_33 rfl (lv_at hl 3 rfl) ?_
  refine lv_istore (lv' := [(4, .int (nI b)), (0, .ref s0), (1, .int (nI kk)), (2, .int (nI a)), (3, .int (nI b))]) hx hb d_S_gate_34 hl (by decide) rfl (fun ls hl => ?_)
  refine lv_aload_n hx hb d_S_gate_36 rfl (lv_at hl 1 rfl) ?_
  refine lv_iload hx hb d_S_gate_37 (lv_at hl 0 rfl) ?_
  refine va_csv (va_Run.run (va_runV (As := [.int (nI b)]) (rest := []) ⟨hx, hb, hml, hown, hts⟩ (c_S_requireLine l dC dI cI cL s0 m0 c0 e0 q1 vr k1 k2 k3 k4 k5 cc gc oc b hb2 (by omega)) (cwV 1 hts (gi_V kw_367 kw_369 ks_S_requireLine kw_1 gi_S_requireLine) rfl rfl rfl ⟨rfl, by decide, by decide, by decide⟩ ⟨Nat.le_of_ble_eq_true rfl, Nat.le_of_ble_eq_true rfl⟩) (wq_preVR hP hK hN [0, 1] rfl (q0 := 0) (ci := 0) rfl rfl rfl) rfl rfl hl.1 rfl (lv_room (Nat.le_of_ble_eq_true rfl)) d_S_gate_39 ⟨Nat.le_of_ble_eq_true rfl, Nat.le_of_ble_eq_true rfl⟩)) (fun q2_ => ?_)
  refine lv_aload_n hx hb d_S_gate_42 rfl (lv_at hl 1 rfl) ?_
  refine va_get (D := (dC, dI)) (ci := 0) (v := .ref c0) (C := R_S) (T := F_S) (N := 5) hx hb hts in_S hown hK hP 0 rfl rfl 1 (by decide) (hts _ kw_95) (fun _ h9 => h9) rfl d_S_gate_43 ?_
  refine va_getN (D := (dC, dI)) (ci := 2) (v := .int (nI gc)) (C := R_C) (T := F_C) (N := 8) hx hb hts in_C hown hK hP 1 rfl rfl 6 (by decide) (nw_use hN kw_57) (fun _ h9 => h9) rfl d_S_gate_46 ?_
  refine lv_bipush (v := nI 24) hx hb d_S_gate_49 (by decide) ?_
  refine lv_icmp_lt (tgt := 64) hx hb d_S_gate_51 (by decide) (fun _ => ?_) (fun hc => absurd hc (fun z => z ((nI_ltI (by omega) (by decide)).mpr hgc)))
  refine lv_aload_n hx hb d_S_gate_64 rfl (lv_at hl 1 rfl) ?_
  refine va_get (D := (dC, dI)) (ci := 0) (v := .ref c0) (C := R_S) (T := F_S) (N := 5) hx hb hts in_S hown hK hP 0 rfl rfl 1 (by decide) (hts _ kw_95) (fun _ h9 => h9) rfl d_S_gate_65 ?_
  refine lv_iload_n hx hb d_S_gate_68 rfl (lv_at hl 2 rfl) ?_
  refine lv_iload_n hx hb d_S_gate_69 rfl (lv_at hl 3 rfl) ?_
  refine lv_iload hx hb d_S_gate_70 (lv_at hl 0 rfl) ?_
  refine wq_i (wr := [(s0, .inr (0, [.ref m0, .ref c0, .ref e0, .ref q1, .long (lN vr)]))]) (va_runVN (As := [.int (nI kk), .int (nI a), .int (nI b)]) (rest := []) ⟨hx, hb, hml, hown, hts⟩ (c_C_addGate l dC dI cI cL st.heap.size c0 k1 k2 k3 k4 k5 cc gc oc kd lf rg ol hk kk a b hgc) ⟨va_cnB 3 hts gi_C_addGate rfl rfl rfl (hN _ kw_392) (hts _ kw_3) ⟨by decide, by decide, by decide⟩ ⟨Nat.le_of_ble_eq_true rfl, Nat.le_of_ble_eq_true rfl⟩, hts _ kw_394, hts _ ks_C_addGate⟩ (wq_preVW hP hD hK hN [1, 2, 3, 4] rfl rfl (q0 := 1) (ci := 2) rfl rfl rfl) rfl rfl hl.1 rfl (lv_room (Nat.le_of_ble_eq_true rfl)) d_S_gate_72 ⟨Nat.le_of_ble_eq_true rfl, Nat.le_of_ble_eq_true rfl⟩) hP hD hS hA [1, 2, 3, 4] [0] rfl rfl rfl (by decide) (fun r u H locs hq hP hD hS hz => ?_)
  have hP : va_P (dC, dI) classes [(s0, .inr (0, [.ref m0, .ref c0, .ref e0, .ref q1, .long (lN vr)])), (c0, .inr (2, [.ref k1, .ref k2, .ref k3, .ref k4, .ref k5, .int (nI cc), .int (nI (gc + 1)), .int (nI oc)])), (k1, .inl (cI, 24, .inl (fun c => nI ((va_up kd gc kk) c)))), (k2, .inl (cI, 24, .inl (fun c => nI ((va_up lf gc a) c)))), (k3, .inl (cI, 24, .inl (fun c => nI ((va_up rg gc b) c))))] H := hP
  have hD : va_D A [(s0, .inr (0, [.ref m0, .ref c0, .ref e0, .ref q1, .long (lN vr)])), (c0, .inr (2, [.ref k1, .ref k2, .ref k3, .ref k4, .ref k5, .int (nI cc), .int (nI (gc + 1)), .int (nI oc)])), (k1, .inl (cI, 24, .inl (fun c => nI ((va_up kd gc kk) c)))), (k2, .inl (cI, 24, .inl (fun c => nI ((va_up lf gc a) c)))), (k3, .inl (cI, 24, .inl (fun c => nI ((va_up rg gc b) c))))] := hD
  subst hq
  have hP := hP.sub (ws' := [(s0, .inr (0, [.ref m0, .ref c0, .ref e0, .ref q1, .long (lN vr)])), (c0, .inr (2, [.ref k1, .ref k2, .ref k3, .ref k4, .ref k5, .int (nI cc), .int (nI (gc + 1)), .int (nI oc)])), (k1, .inl (cI, 24, .inl (fun c => nI ((va_up kd gc kk) c)))), (k2, .inl (cI, 24, .inl (fun c => nI ((va_up lf gc a) c)))), (k3, .inl (cI, 24, .inl (fun c => nI ((va_up rg gc b) c))))]) [0, 1, 2, 3, 4] rfl
  have hD := hD.sub (ws' := [(s0, .inr (0, [.ref m0, .ref c0, .ref e0, .ref q1, .long (lN vr)])), (c0, .inr (2, [.ref k1, .ref k2, .ref k3, .ref k4, .ref k5, .int (nI cc), .int (nI (gc + 1)), .int (nI oc)])), (k1, .inl (cI, 24, .inl (fun c => nI ((va_up kd gc kk) c)))), (k2, .inl (cI, 24, .inl (fun c => nI ((va_up lf gc a) c)))), (k3, .inl (cI, 24, .inl (fun c => nI ((va_up rg gc b) c))))]) [0, 1, 2, 3, 4] (by decide) rfl
  exact W.iret (v := nI (cc + gc)) hx hb hr (fun t ht hW => ⟨⟨nI (cc + gc), (), rfl, rfl, by rw [ht]; exact hP, va_K.moved hW.alike hK, hD⟩, hS.F ht⟩) hS.2.2 d_S_gate_75
set_option maxHeartbeats 4000000 in
set_option maxRecDepth 100000 in
theorem x_S_gateK (l : Launch) (dC : Nat → ClassId) (dI : Nat → Nat → Nat) (cI cL : ClassId) (hlt : l.stackTraces = false) (sz : Nat) (s0 m0 c0 e0 q1 : Nat) (vr : Nat) (y0 y1 y2 : Int32) (hy : y0 < 0 ∨ ¬ y0 ≤ nI 5) : vx_Met l y_S_gate w_S_gate ({ frames := 6, cells := 1, slots := 6, locals := 82 } : Room) (va_Pc [.ref s0, .int y0, .int y1, .int y2] (wq_X (dC, dI) classes [(s0, .inr (0, [.ref m0, .ref c0, .ref e0, .ref q1, .long (lN vr)]))] [(cI, .int), (cL, .long)] sz)) (xq_i sz) (xq "java/lang/IllegalArgumentException" sz) 1 6 (fun q => sz ≤ q) := by
  refine vx_ofW (cc := b_S_gate) (maxL := 5) (ret := (Option.some Jvm.ClassFile.FieldType.int)) (by decide) rfl ?_
  intro pg en st mm ar bw me co s₁ B hml hex hv
  obtain ⟨rfl, hsz, ⟨hP, hK, hN⟩, hE, hZ⟩ := hv
  subst hsz
  have hx := B.exec
  have hb := B.bytes
  have hr := B.returns
  have hlocks := B.notSynchronized
  have hts0 := atoms_spec (ws := w_S_gate) B.pre
  have hts : ∀ w ∈ gw, w.before _ st = true := fun w h => hts0 w (List.mem_cons_of_mem _ h)
  have hown : st.vm.findClass R_S = some mm.cls := findClass_of_methodNamed B.named
  have hl := lv_entry ([.ref s0, .int y0, .int y1, .int y2]) (n := 5) (Nat.le_of_ble_eq_true rfl)
  rw [lg_entry_eq]
  generalize (lg_sl ([.ref s0, .int y0, .int y1, .int y2]) ++ List.replicate (5 - (lg_sl ([.ref s0, .int y0, .int y1, .int y2])).length) Slot.unset).toArray = ls at hl ⊢
  have hl : lv_has ls 5 [(0, .ref s0), (1, .int y0), (2, .int y1), (3, .int y2)] := hl
  refine lv_iload_n hx hb d_S_gate_0 rfl (lv_at hl 1 rfl) ?_
  refine lv_if_lt (tgt := 9) hx hb d_S_gate_1 (by decide) (fun hn => ?_) (fun hn => ?_)
  · obtain ⟨sa, hstr⟩ := hE.2 _ xs_108
    exact vx_throwS (R := (headSpec w_S_gate ({ frames := 6, cells := 1, slots := 6, locals := 82 } : Room)).room) (rest := []) (cells := 0) (slots := 0) (mc := 1) (ms := 6) (names := ["java/lang/RuntimeException", "java/lang/Exception"]) hx hb hlt hown (by decide) (by decide) (hts _ xt_IA_k) (hts _ xt_IA_i) hstr (xt_IA hts hE) xt_IA_o hZ.1 hZ.2 va_S.rf (hl.1.trans hml.symm) d_S_gate_9 d_S_gate_12 d_S_gate_13 d_S_gate_15 d_S_gate_18 (fun x hx => (hex x hx).elim) (Nat.le_of_ble_eq_true rfl) (Nat.le_of_ble_eq_true rfl) (Nat.le_of_ble_eq_true rfl) (Nat.le_of_ble_eq_true rfl) hlocks xq_hx (fun _ h => nomatch h) (Nat.le_of_ble_eq_true rfl) (Nat.le_of_ble_eq_true rfl)
  · refine lv_iload_n hx hb d_S_gate_4 rfl (lv_at hl 1 rfl) ?_
    refine lv_iconst (v := nI 5) hx hb d_S_gate_5 (by decide) ?_
    refine lv_icmp_le (tgt := 19) hx hb d_S_gate_6 (by decide) (fun hc => absurd hc (fun z => hy.elim hn (fun q => q z))) (fun _ => ?_)
    obtain ⟨sa, hstr⟩ := hE.2 _ xs_108
    exact vx_throwS (R := (headSpec w_S_gate ({ frames := 6, cells := 1, slots := 6, locals := 82 } : Room)).room) (rest := []) (cells := 0) (slots := 0) (mc := 1) (ms := 6) (names := ["java/lang/RuntimeException", "java/lang/Exception"]) hx hb hlt hown (by decide) (by decide) (hts _ xt_IA_k) (hts _ xt_IA_i) hstr (xt_IA hts hE) xt_IA_o hZ.1 hZ.2 va_S.rf (hl.1.trans hml.symm) d_S_gate_9 d_S_gate_12 d_S_gate_13 d_S_gate_15 d_S_gate_18 (fun x hx => (hex x hx).elim) (Nat.le_of_ble_eq_true rfl) (Nat.le_of_ble_eq_true rfl) (Nat.le_of_ble_eq_true rfl) (Nat.le_of_ble_eq_true rfl) hlocks xq_hx (fun _ h => nomatch h) (Nat.le_of_ble_eq_true rfl) (Nat.le_of_ble_eq_true rfl)
set_option maxHeartbeats 4000000 in
set_option maxRecDepth 100000 in
theorem x_S_gateA (l : Launch) (dC : Nat → ClassId) (dI : Nat → Nat → Nat) (cI cL : ClassId) (hlt : l.stackTraces = false) (sz : Nat) (s0 m0 c0 e0 q1 : Nat) (vr : Nat) (k1 k2 k3 k4 k5 : Nat) (cc gc oc : Nat) (kk : Nat) (hkk : kk ≤ 5) (y1 y2 : Int32) (hy : y1 < 0 ∨ ¬ y1 < nI (cc + gc)) : vx_Met l y_S_gate w_S_gate ({ frames := 7, cells := 1, slots := 6, locals := 103 } : Room) (va_Pc [.ref s0, .int (nI kk), .int y1, .int y2] (wq_X (dC, dI) classes [(s0, .inr (0, [.ref m0, .ref c0, .ref e0, .ref q1, .long (lN vr)])), (c0, .inr (2, [.ref k1, .ref k2, .ref k3, .ref k4, .ref k5, .int (nI cc), .int (nI gc), .int (nI oc)]))] [(cI, .int), (cL, .long)] sz)) (xq_i sz) (xq "java/lang/IndexOutOfBoundsException" sz) 1 6 (fun q => sz ≤ q) := by
  refine vx_ofW (cc := b_S_gate) (maxL := 5) (ret := (Option.some Jvm.ClassFile.FieldType.int)) (by decide) rfl ?_
  intro pg en st mm ar bw me co s₁ B hml hex hv
  obtain ⟨rfl, hsz, ⟨hP, hK, hN⟩, hE, hZ⟩ := hv
  subst hsz
  have hx := B.exec
  have hb := B.bytes
  have hr := B.returns
  have hlocks := B.notSynchronized
  have hts0 := atoms_spec (ws := w_S_gate) B.pre
  have hts : ∀ w ∈ gw, w.before _ st = true := fun w h => hts0 w (List.mem_cons_of_mem _ h)
  have hown : st.vm.findClass R_S = some mm.cls := findClass_of_methodNamed B.named
  have hl := lv_entry ([.ref s0, .int (nI kk), .int y1, .int y2]) (n := 5) (Nat.le_of_ble_eq_true rfl)
  rw [lg_entry_eq]
  generalize (lg_sl ([.ref s0, .int (nI kk), .int y1, .int y2]) ++ List.replicate (5 - (lg_sl ([.ref s0, .int (nI kk), .int y1, .int y2])).length) Slot.unset).toArray = ls at hl ⊢
  have hl : lv_has ls 5 [(0, .ref s0), (1, .int (nI kk)), (2, .int y1), (3, .int y2)] := hl
  refine lv_iload_n hx hb d_S_gate_0 rfl (lv_at hl 1 rfl) ?_
  refine lv_if_lt (tgt := 9) hx hb d_S_gate_1 (by decide) (fun hc => absurd hc (nI_nn (by omega))) (fun _ => ?_)
  refine lv_iload_n hx hb d_S_gate_4 rfl (lv_at hl 1 rfl) ?_
  refine lv_iconst (v := nI 5) hx hb d_S_gate_5 (by decide) ?_
  refine lv_icmp_le (tgt := 19) hx hb d_S_gate_6 (by decide) (fun _ => ?_) (fun hc => absurd hc (fun z => z ((nI_leI (by omega) (by decide)).mpr (by omega))))
  refine lv_aload_n hx hb d_S_gate_19 rfl (lv_at hl 0 rfl) ?_
  refine lv_iload_n hx hb d_S_gate_20 rfl (lv_at hl 2 rfl) ?_
  exact xq_cv (cells := 0) (slots := 0) (mc := 1) (ms := 6) (MC := 1) (MS := 6) (vx_runV (As := [.int y1]) (rest := []) ⟨hx, hb, hml, hown, hts⟩ (x_S_requireLine l dC dI cI cL hlt st.heap.size s0 m0 c0 e0 q1 vr k1 k2 k3 k4 k5 cc gc oc y1 hy) (cwV 1 hts (gi_V kw_367 kw_369 ks_S_requireLine kw_1 gi_S_requireLine) rfl rfl rfl ⟨rfl, by decide, by decide, by decide⟩ ⟨Nat.le_of_ble_eq_true rfl, Nat.le_of_ble_eq_true rfl⟩) (wq_preVX hP hK hN hE hZ [0, 1] rfl (q0 := 0) (ci := 0) rfl rfl rfl) rfl rfl hl.1 rfl (lv_room (Nat.le_of_ble_eq_true rfl)) d_S_gate_21 ⟨Nat.le_of_ble_eq_true rfl, Nat.le_of_ble_eq_true rfl⟩) hex hlocks (Nat.le_of_ble_eq_true rfl) (Nat.le_of_ble_eq_true rfl)
set_option maxHeartbeats 4000000 in
set_option maxRecDepth 100000 in
theorem x_S_gateB (l : Launch) (dC : Nat → ClassId) (dI : Nat → Nat → Nat) (cI cL : ClassId) (hlt : l.stackTraces = false) (sz : Nat) (s0 m0 c0 e0 q1 : Nat) (vr : Nat) (k1 k2 k3 k4 k5 : Nat) (cc gc oc : Nat) (kk a : Nat) (hkk : kk < 5) (ha : a < cc + gc) (hl1 : cc + gc < 2 ^ 31) (y2 : Int32) (hy : y2 < 0 ∨ ¬ y2 < nI (cc + gc)) : vx_Met l y_S_gate w_S_gate ({ frames := 7, cells := 1, slots := 6, locals := 103 } : Room) (va_Pc [.ref s0, .int (nI kk), .int (nI a), .int y2] (wq_X (dC, dI) classes [(s0, .inr (0, [.ref m0, .ref c0, .ref e0, .ref q1, .long (lN vr)])), (c0, .inr (2, [.ref k1, .ref k2, .ref k3, .ref k4, .ref k5, .int (nI cc), .int (nI gc), .int (nI oc)]))] [(cI, .int), (cL, .long)] sz)) (xq_i sz) (xq "java/lang/IndexOutOfBoundsException" sz) 1 6 (fun q => sz ≤ q) := by
  refine vx_ofW (cc := b_S_gate) (maxL := 5) (ret := (Option.some Jvm.ClassFile.FieldType.int)) (by decide) rfl ?_
  intro pg en st mm ar bw me co s₁ B hml hex hv
  obtain ⟨rfl, hsz, ⟨hP, hK, hN⟩, hE, hZ⟩ := hv
  subst hsz
  have hx := B.exec
  have hb := B.bytes
  have hr := B.returns
  have hlocks := B.notSynchronized
  have hts0 := atoms_spec (ws := w_S_gate) B.pre
  have hts : ∀ w ∈ gw, w.before _ st = true := fun w h => hts0 w (List.mem_cons_of_mem _ h)
  have hown : st.vm.findClass R_S = some mm.cls := findClass_of_methodNamed B.named
  have hl := lv_entry ([.ref s0, .int (nI kk), .int (nI a), .int y2]) (n := 5) (Nat.le_of_ble_eq_true rfl)
  rw [lg_entry_eq]
  generalize (lg_sl ([.ref s0, .int (nI kk), .int (nI a), .int y2]) ++ List.replicate (5 - (lg_sl ([.ref s0, .int (nI kk), .int (nI a), .int y2])).length) Slot.unset).toArray = ls at hl ⊢
  have hl : lv_has ls 5 [(0, .ref s0), (1, .int (nI kk)), (2, .int (nI a)), (3, .int y2)] := hl
  refine lv_iload_n hx hb d_S_gate_0 rfl (lv_at hl 1 rfl) ?_
  refine lv_if_lt (tgt := 9) hx hb d_S_gate_1 (by decide) (fun hc => absurd hc (nI_nn (by omega))) (fun _ => ?_)
  refine lv_iload_n hx hb d_S_gate_4 rfl (lv_at hl 1 rfl) ?_
  refine lv_iconst (v := nI 5) hx hb d_S_gate_5 (by decide) ?_
  refine lv_icmp_le (tgt := 19) hx hb d_S_gate_6 (by decide) (fun _ => ?_) (fun hc => absurd hc (fun z => z ((nI_leI (by omega) (by decide)).mpr (by omega))))
  refine lv_aload_n hx hb d_S_gate_19 rfl (lv_at hl 0 rfl) ?_
  refine lv_iload_n hx hb d_S_gate_20 rfl (lv_at hl 2 rfl) ?_
  refine va_csv (va_Run.run (va_runV (As := [.int (nI a)]) (rest := []) ⟨hx, hb, hml, hown, hts⟩ (c_S_requireLine l dC dI cI cL s0 m0 c0 e0 q1 vr k1 k2 k3 k4 k5 cc gc oc a ha hl1) (cwV 1 hts (gi_V kw_367 kw_369 ks_S_requireLine kw_1 gi_S_requireLine) rfl rfl rfl ⟨rfl, by decide, by decide, by decide⟩ ⟨Nat.le_of_ble_eq_true rfl, Nat.le_of_ble_eq_true rfl⟩) (wq_preVR hP hK hN [0, 1] rfl (q0 := 0) (ci := 0) rfl rfl rfl) rfl rfl hl.1 rfl (lv_room (Nat.le_of_ble_eq_true rfl)) d_S_gate_21 ⟨Nat.le_of_ble_eq_true rfl, Nat.le_of_ble_eq_true rfl⟩)) (fun q1_ => ?_)
  refine lv_iload_n hx hb d_S_gate_24 rfl (lv_at hl 1 rfl) ?_
  refine lv_iconst (v := nI 5) hx hb d_S_gate_25 (by decide) ?_
  refine lv_icmp_ne (tgt := 33) hx hb d_S_gate_26 (by decide) (fun _ => ?_) (fun hc => absurd hc (fun z => nI_5 hkk z))
  refine lv_iload_n hx hb d_S_gate_33 rfl (lv_at hl 3 rfl) ?_
  refine lv_istore (lv' := [(4, .int y2), (0, .ref s0), (1, .int (nI kk)), (2, .int (nI a)), (3, .int y2)]) hx hb d_S_gate_34 hl (by decide) rfl (fun ls hl => ?_)
  refine lv_aload_n hx hb d_S_gate_36 rfl (lv_at hl 1 rfl) ?_
  refine lv_iload hx hb d_S_gate_37 (lv_at hl 0 rfl) ?_
  exact xq_cv (cells := 0) (slots := 0) (mc := 1) (ms := 6) (MC := 1) (MS := 6) (vx_runV (As := [.int y2]) (rest := []) ⟨hx, hb, hml, hown, hts⟩ (x_S_requireLine l dC dI cI cL hlt st.heap.size s0 m0 c0 e0 q1 vr k1 k2 k3 k4 k5 cc gc oc y2 hy) (cwV 1 hts (gi_V kw_367 kw_369 ks_S_requireLine kw_1 gi_S_requireLine) rfl rfl rfl ⟨rfl, by decide, by decide, by decide⟩ ⟨Nat.le_of_ble_eq_true rfl, Nat.le_of_ble_eq_true rfl⟩) (wq_preVX hP hK hN hE hZ [0, 1] rfl (q0 := 0) (ci := 0) rfl rfl rfl) rfl rfl hl.1 rfl (lv_room (Nat.le_of_ble_eq_true rfl)) d_S_gate_39 ⟨Nat.le_of_ble_eq_true rfl, Nat.le_of_ble_eq_true rfl⟩) hex hlocks (Nat.le_of_ble_eq_true rfl) (Nat.le_of_ble_eq_true rfl)
set_option maxHeartbeats 4000000 in
set_option maxRecDepth 100000 in
theorem x_S_gateF5 (l : Launch) (dC : Nat → ClassId) (dI : Nat → Nat → Nat) (cI cL : ClassId) (hlt : l.stackTraces = false) (sz : Nat) (s0 m0 c0 e0 q1 : Nat) (vr : Nat) (k1 k2 k3 k4 k5 : Nat) (cc gc oc : Nat) (a : Nat) (y : Int32) (ha : a < cc + gc) (hl1 : cc + gc < 2 ^ 31) (hgc : gc = 24) : vx_Met l y_S_gate w_S_gate ({ frames := 6, cells := 1, slots := 6, locals := 82 } : Room) (va_Pc [.ref s0, .int (nI 5), .int (nI a), .int y] (wq_X (dC, dI) classes [(s0, .inr (0, [.ref m0, .ref c0, .ref e0, .ref q1, .long (lN vr)])), (c0, .inr (2, [.ref k1, .ref k2, .ref k3, .ref k4, .ref k5, .int (nI cc), .int (nI gc), .int (nI oc)]))] [(cI, .int), (cL, .long)] sz)) (xq_i sz) (xq "java/lang/IllegalStateException" sz) 1 6 (fun q => sz ≤ q) := by
  refine vx_ofW (cc := b_S_gate) (maxL := 5) (ret := (Option.some Jvm.ClassFile.FieldType.int)) (by decide) rfl ?_
  intro pg en st mm ar bw me co s₁ B hml hex hv
  obtain ⟨rfl, hsz, ⟨hP, hK, hN⟩, hE, hZ⟩ := hv
  subst hsz
  have hx := B.exec
  have hb := B.bytes
  have hr := B.returns
  have hlocks := B.notSynchronized
  have hts0 := atoms_spec (ws := w_S_gate) B.pre
  have hts : ∀ w ∈ gw, w.before _ st = true := fun w h => hts0 w (List.mem_cons_of_mem _ h)
  have hown : st.vm.findClass R_S = some mm.cls := findClass_of_methodNamed B.named
  have hl := lv_entry ([.ref s0, .int (nI 5), .int (nI a), .int y]) (n := 5) (Nat.le_of_ble_eq_true rfl)
  rw [lg_entry_eq]
  generalize (lg_sl ([.ref s0, .int (nI 5), .int (nI a), .int y]) ++ List.replicate (5 - (lg_sl ([.ref s0, .int (nI 5), .int (nI a), .int y])).length) Slot.unset).toArray = ls at hl ⊢
  have hl : lv_has ls 5 [(0, .ref s0), (1, .int (nI 5)), (2, .int (nI a)), (3, .int y)] := hl
  refine lv_iload_n hx hb d_S_gate_0 rfl (lv_at hl 1 rfl) ?_
  refine lv_if_lt (tgt := 9) hx hb d_S_gate_1 (by decide) (fun hc => absurd hc (nI_nn (by omega))) (fun _ => ?_)
  refine lv_iload_n hx hb d_S_gate_4 rfl (lv_at hl 1 rfl) ?_
  refine lv_iconst (v := nI 5) hx hb d_S_gate_5 (by decide) ?_
  refine lv_icmp_le (tgt := 19) hx hb d_S_gate_6 (by decide) (fun _ => ?_) (fun hc => absurd hc (fun z => z ((nI_leI (by omega) (by decide)).mpr (by omega))))
  refine lv_aload_n hx hb d_S_gate_19 rfl (lv_at hl 0 rfl) ?_
  refine lv_iload_n hx hb d_S_gate_20 rfl (lv_at hl 2 rfl) ?_
  refine va_csv (va_Run.run (va_runV (As := [.int (nI a)]) (rest := []) ⟨hx, hb, hml, hown, hts⟩ (c_S_requireLine l dC dI cI cL s0 m0 c0 e0 q1 vr k1 k2 k3 k4 k5 cc gc oc a ha hl1) (cwV 1 hts (gi_V kw_367 kw_369 ks_S_requireLine kw_1 gi_S_requireLine) rfl rfl rfl ⟨rfl, by decide, by decide, by decide⟩ ⟨Nat.le_of_ble_eq_true rfl, Nat.le_of_ble_eq_true rfl⟩) (wq_preVR hP hK hN [0, 1] rfl (q0 := 0) (ci := 0) rfl rfl rfl) rfl rfl hl.1 rfl (lv_room (Nat.le_of_ble_eq_true rfl)) d_S_gate_21 ⟨Nat.le_of_ble_eq_true rfl, Nat.le_of_ble_eq_true rfl⟩)) (fun q1_ => ?_)
  refine lv_iload_n hx hb d_S_gate_24 rfl (lv_at hl 1 rfl) ?_
  refine lv_iconst (v := nI 5) hx hb d_S_gate_25 (by decide) ?_
  refine lv_icmp_ne (tgt := 33) hx hb d_S_gate_26 (by decide) (fun hc => absurd hc (fun z => z rfl)) (fun _ => ?_)
  refine lv_iload_n hx hb d_S_gate_29 rfl (lv_at hl 2 rfl) ?_
  refine lv_goto (tgt := 34) hx hb d_S_gate_30 (by decide) ?_
  refine lv_istore (lv' := [(4, .int (nI a)), (0, .ref s0), (1, .int (nI 5)), (2, .int (nI a)), (3, .int y)]) hx hb d_S_gate_34 hl (by decide) rfl (fun ls hl => ?_)
  refine lv_aload_n hx hb d_S_gate_36 rfl (lv_at hl 1 rfl) ?_
  refine lv_iload hx hb d_S_gate_37 (lv_at hl 0 rfl) ?_
  refine va_csv (va_Run.run (va_runV (As := [.int (nI a)]) (rest := []) ⟨hx, hb, hml, hown, hts⟩ (c_S_requireLine l dC dI cI cL s0 m0 c0 e0 q1 vr k1 k2 k3 k4 k5 cc gc oc a ha hl1) (cwV 1 hts (gi_V kw_367 kw_369 ks_S_requireLine kw_1 gi_S_requireLine) rfl rfl rfl ⟨rfl, by decide, by decide, by decide⟩ ⟨Nat.le_of_ble_eq_true rfl, Nat.le_of_ble_eq_true rfl⟩) (wq_preVR hP hK hN [0, 1] rfl (q0 := 0) (ci := 0) rfl rfl rfl) rfl rfl hl.1 rfl (lv_room (Nat.le_of_ble_eq_true rfl)) d_S_gate_39 ⟨Nat.le_of_ble_eq_true rfl, Nat.le_of_ble_eq_true rfl⟩)) (fun q2_ => ?_)
  refine lv_aload_n hx hb d_S_gate_42 rfl (lv_at hl 1 rfl) ?_
  refine va_get (D := (dC, dI)) (ci := 0) (v := .ref c0) (C := R_S) (T := F_S) (N := 5) hx hb hts in_S hown hK hP 0 rfl rfl 1 (by decide) (hts _ kw_95) (fun _ h9 => h9) rfl d_S_gate_43 ?_
  refine va_getN (D := (dC, dI)) (ci := 2) (v := .int (nI gc)) (C := R_C) (T := F_C) (N := 8) hx hb hts in_C hown hK hP 1 rfl rfl 6 (by decide) (nw_use hN kw_57) (fun _ h9 => h9) rfl d_S_gate_46 ?_
  refine lv_bipush (v := nI 24) hx hb d_S_gate_49 (by decide) ?_
  refine lv_icmp_lt (tgt := 64) hx hb d_S_gate_51 (by decide) (fun hc => absurd hc (show ¬ nI gc < nI 24 from by rw [hgc]; decide)) (fun _ => ?_)
  obtain ⟨sa, hstr⟩ := hE.2 _ xs_116
  exact vx_throwS (R := (headSpec w_S_gate ({ frames := 6, cells := 1, slots := 6, locals := 82 } : Room)).room) (rest := []) (cells := 0) (slots := 0) (mc := 1) (ms := 6) (names := ["java/lang/RuntimeException", "java/lang/Exception"]) hx hb hlt hown (by decide) (by decide) (hts _ xt_IS_k) (hts _ xt_IS_i) hstr (xt_IS hts hE) xt_IS_o hZ.1 hZ.2 va_S.rf (hl.1.trans hml.symm) d_S_gate_54 d_S_gate_57 d_S_gate_58 d_S_gate_60 d_S_gate_63 (fun x hx => (hex x hx).elim) (Nat.le_of_ble_eq_true rfl) (Nat.le_of_ble_eq_true rfl) (Nat.le_of_ble_eq_true rfl) (Nat.le_of_ble_eq_true rfl) hlocks xq_hx (fun _ h => nomatch h) (Nat.le_of_ble_eq_true rfl) (Nat.le_of_ble_eq_true rfl)
set_option maxHeartbeats 4000000 in
set_option maxRecDepth 100000 in
theorem x_S_gateFK (l : Launch) (dC : Nat → ClassId) (dI : Nat → Nat → Nat) (cI cL : ClassId) (hlt : l.stackTraces = false) (sz : Nat) (s0 m0 c0 e0 q1 : Nat) (vr : Nat) (k1 k2 k3 k4 k5 : Nat) (cc gc oc : Nat) (kk a b : Nat) (hkk : kk < 5) (ha : a < cc + gc) (hb2 : b < cc + gc) (hl1 : cc + gc < 2 ^ 31) (hgc : gc = 24) : vx_Met l y_S_gate w_S_gate ({ frames := 6, cells := 1, slots := 6, locals := 82 } : Room) (va_Pc [.ref s0, .int (nI kk), .int (nI a), .int (nI b)] (wq_X (dC, dI) classes [(s0, .inr (0, [.ref m0, .ref c0, .ref e0, .ref q1, .long (lN vr)])), (c0, .inr (2, [.ref k1, .ref k2, .ref k3, .ref k4, .ref k5, .int (nI cc), .int (nI gc), .int (nI oc)]))] [(cI, .int), (cL, .long)] sz)) (xq_i sz) (xq "java/lang/IllegalStateException" sz) 1 6 (fun q => sz ≤ q) := by
  refine vx_ofW (cc := b_S_gate) (maxL := 5) (ret := (Option.some Jvm.ClassFile.FieldType.int)) (by decide) rfl ?_
  intro pg en st mm ar bw me co s₁ B hml hex hv
  obtain ⟨rfl, hsz, ⟨hP, hK, hN⟩, hE, hZ⟩ := hv
  subst hsz
  have hx := B.exec
  have hb := B.bytes
  have hr := B.returns
  have hlocks := B.notSynchronized
  have hts0 := atoms_spec (ws := w_S_gate) B.pre
  have hts : ∀ w ∈ gw, w.before _ st = true := fun w h => hts0 w (List.mem_cons_of_mem _ h)
  have hown : st.vm.findClass R_S = some mm.cls := findClass_of_methodNamed B.named
  have hl := lv_entry ([.ref s0, .int (nI kk), .int (nI a), .int (nI b)]) (n := 5) (Nat.le_of_ble_eq_true rfl)
  rw [lg_entry_eq]
  generalize (lg_sl ([.ref s0, .int (nI kk), .int (nI a), .int (nI b)]) ++ List.replicate (5 - (lg_sl ([.ref s0, .int (nI kk), .int (nI a), .int (nI b)])).length) Slot.unset).toArray = ls at hl ⊢
  have hl : lv_has ls 5 [(0, .ref s0), (1, .int (nI kk)), (2, .int (nI a)), (3, .int (nI b))] := hl
  refine lv_iload_n hx hb d_S_gate_0 rfl (lv_at hl 1 rfl) ?_
  refine lv_if_lt (tgt := 9) hx hb d_S_gate_1 (by decide) (fun hc => absurd hc (nI_nn (by omega))) (fun _ => ?_)
  refine lv_iload_n hx hb d_S_gate_4 rfl (lv_at hl 1 rfl) ?_
  refine lv_iconst (v := nI 5) hx hb d_S_gate_5 (by decide) ?_
  refine lv_icmp_le (tgt := 19) hx hb d_S_gate_6 (by decide) (fun _ => ?_) (fun hc => absurd hc (fun z => z ((nI_leI (by omega) (by decide)).mpr (by omega))))
  refine lv_aload_n hx hb d_S_gate_19 rfl (lv_at hl 0 rfl) ?_
  refine lv_iload_n hx hb d_S_gate_20 rfl (lv_at hl 2 rfl) ?_
  refine va_csv (va_Run.run (va_runV (As := [.int (nI a)]) (rest := []) ⟨hx, hb, hml, hown, hts⟩ (c_S_requireLine l dC dI cI cL s0 m0 c0 e0 q1 vr k1 k2 k3 k4 k5 cc gc oc a ha hl1) (cwV 1 hts (gi_V kw_367 kw_369 ks_S_requireLine kw_1 gi_S_requireLine) rfl rfl rfl ⟨rfl, by decide, by decide, by decide⟩ ⟨Nat.le_of_ble_eq_true rfl, Nat.le_of_ble_eq_true rfl⟩) (wq_preVR hP hK hN [0, 1] rfl (q0 := 0) (ci := 0) rfl rfl rfl) rfl rfl hl.1 rfl (lv_room (Nat.le_of_ble_eq_true rfl)) d_S_gate_21 ⟨Nat.le_of_ble_eq_true rfl, Nat.le_of_ble_eq_true rfl⟩)) (fun q1_ => ?_)
  refine lv_iload_n hx hb d_S_gate_24 rfl (lv_at hl 1 rfl) ?_
  refine lv_iconst (v := nI 5) hx hb d_S_gate_25 (by decide) ?_
  refine lv_icmp_ne (tgt := 33) hx hb d_S_gate_26 (by decide) (fun _ => ?_) (fun hc => absurd hc (fun z => nI_5 hkk z))
  refine lv_iload_n hx hb d_S_gate_33 rfl (lv_at hl 3 rfl) ?_
  refine lv_istore (lv' := [(4, .int (nI b)), (0, .ref s0), (1, .int (nI kk)), (2, .int (nI a)), (3, .int (nI b))]) hx hb d_S_gate_34 hl (by decide) rfl (fun ls hl => ?_)
  refine lv_aload_n hx hb d_S_gate_36 rfl (lv_at hl 1 rfl) ?_
  refine lv_iload hx hb d_S_gate_37 (lv_at hl 0 rfl) ?_
  refine va_csv (va_Run.run (va_runV (As := [.int (nI b)]) (rest := []) ⟨hx, hb, hml, hown, hts⟩ (c_S_requireLine l dC dI cI cL s0 m0 c0 e0 q1 vr k1 k2 k3 k4 k5 cc gc oc b hb2 hl1) (cwV 1 hts (gi_V kw_367 kw_369 ks_S_requireLine kw_1 gi_S_requireLine) rfl rfl rfl ⟨rfl, by decide, by decide, by decide⟩ ⟨Nat.le_of_ble_eq_true rfl, Nat.le_of_ble_eq_true rfl⟩) (wq_preVR hP hK hN [0, 1] rfl (q0 := 0) (ci := 0) rfl rfl rfl) rfl rfl hl.1 rfl (lv_room (Nat.le_of_ble_eq_true rfl)) d_S_gate_39 ⟨Nat.le_of_ble_eq_true rfl, Nat.le_of_ble_eq_true rfl⟩)) (fun q2_ => ?_)
  refine lv_aload_n hx hb d_S_gate_42 rfl (lv_at hl 1 rfl) ?_
  refine va_get (D := (dC, dI)) (ci := 0) (v := .ref c0) (C := R_S) (T := F_S) (N := 5) hx hb hts in_S hown hK hP 0 rfl rfl 1 (by decide) (hts _ kw_95) (fun _ h9 => h9) rfl d_S_gate_43 ?_
  refine va_getN (D := (dC, dI)) (ci := 2) (v := .int (nI gc)) (C := R_C) (T := F_C) (N := 8) hx hb hts in_C hown hK hP 1 rfl rfl 6 (by decide) (nw_use hN kw_57) (fun _ h9 => h9) rfl d_S_gate_46 ?_
  refine lv_bipush (v := nI 24) hx hb d_S_gate_49 (by decide) ?_
  refine lv_icmp_lt (tgt := 64) hx hb d_S_gate_51 (by decide) (fun hc => absurd hc (show ¬ nI gc < nI 24 from by rw [hgc]; decide)) (fun _ => ?_)
  obtain ⟨sa, hstr⟩ := hE.2 _ xs_116
  exact vx_throwS (R := (headSpec w_S_gate ({ frames := 6, cells := 1, slots := 6, locals := 82 } : Room)).room) (rest := []) (cells := 0) (slots := 0) (mc := 1) (ms := 6) (names := ["java/lang/RuntimeException", "java/lang/Exception"]) hx hb hlt hown (by decide) (by decide) (hts _ xt_IS_k) (hts _ xt_IS_i) hstr (xt_IS hts hE) xt_IS_o hZ.1 hZ.2 va_S.rf (hl.1.trans hml.symm) d_S_gate_54 d_S_gate_57 d_S_gate_58 d_S_gate_60 d_S_gate_63 (fun x hx => (hex x hx).elim) (Nat.le_of_ble_eq_true rfl) (Nat.le_of_ble_eq_true rfl) (Nat.le_of_ble_eq_true rfl) (Nat.le_of_ble_eq_true rfl) hlocks xq_hx (fun _ h => nomatch h) (Nat.le_of_ble_eq_true rfl) (Nat.le_of_ble_eq_true rfl)
set_option maxHeartbeats 4000000 in
set_option maxRecDepth 100000 in
theorem c_S_output (l : Launch) (dC : Nat → ClassId) (dI : Nat → Nat → Nat) (cI cL : ClassId) (sz : Nat) (s0 m0 c0 e0 q1 : Nat) (vr : Nat) (k1 k2 k3 k4 k5 : Nat) (cc gc oc : Nat) (ol : Nat → Nat) (a : Nat) (ha : a < cc + gc) (hl1 : cc + gc < 2 ^ 31) (hoc : oc < 16) : Met l y_S_output w_S_output ({ frames := 2, cells := 0, slots := 0, locals := 41 } : Room) (va_Pc [.ref s0, .int (nI a)] (wq_W (dC, dI) classes [(s0, .inr (0, [.ref m0, .ref c0, .ref e0, .ref q1, .long (lN vr)])), (c0, .inr (2, [.ref k1, .ref k2, .ref k3, .ref k4, .ref k5, .int (nI cc), .int (nI gc), .int (nI oc)])), (k4, .inl (cI, 16, .inl (fun c => nI (ol c))))] [(cI, .int), (cL, .long)] sz)) (va_Qi (fun (r : Int32) (u : Unit) => r = nI oc) (fun (u : Unit) t => wq_B (dC, dI) classes [(cI, .int), (cL, .long)] (va_A [(s0, .inr (0, [.ref m0, .ref c0, .ref e0, .ref q1, .long (lN vr)])), (c0, .inr (2, [.ref k1, .ref k2, .ref k3, .ref k4, .ref k5, .int (nI cc), .int (nI gc), .int (nI oc)])), (k4, .inl (cI, 16, .inl (fun c => nI (ol c))))] sz) [(s0, .inr (0, [.ref m0, .ref c0, .ref e0, .ref q1, .long (lN vr)])), (c0, .inr (2, [.ref k1, .ref k2, .ref k3, .ref k4, .ref k5, .int (nI cc), .int (nI gc), .int (nI (oc + 1))])), (k4, .inl (cI, 16, .inl (fun c => nI ((va_up ol oc a) c))))] t) (va_A [(s0, .inr (0, [.ref m0, .ref c0, .ref e0, .ref q1, .long (lN vr)])), (c0, .inr (2, [.ref k1, .ref k2, .ref k3, .ref k4, .ref k5, .int (nI cc), .int (nI gc), .int (nI oc)])), (k4, .inl (cI, 16, .inl (fun c => nI (ol c))))] sz)) 0 0 (va_A [(s0, .inr (0, [.ref m0, .ref c0, .ref e0, .ref q1, .long (lN vr)])), (c0, .inr (2, [.ref k1, .ref k2, .ref k3, .ref k4, .ref k5, .int (nI cc), .int (nI gc), .int (nI oc)])), (k4, .inl (cI, 16, .inl (fun c => nI (ol c))))] sz) := by
  refine Met.ofW (cc := b_S_output) (maxL := 2) (ret := (Option.some Jvm.ClassFile.FieldType.int)) (by decide) rfl ?_
  intro pg en st mm ar bw me co s₁ B hml hv
  obtain ⟨rfl, hsz, hP, hK, hD0, hN⟩ := hv
  have hx := B.exec
  have hb := B.bytes
  have hr := B.returns
  have hlocks := B.notSynchronized
  have hts0 := atoms_spec (ws := w_S_output) B.pre
  have hts : ∀ w ∈ gw, w.before _ st = true := fun w h => hts0 w (List.mem_cons_of_mem _ h)
  have hown : st.vm.findClass R_S = some mm.cls := findClass_of_methodNamed B.named
  subst hsz
  have hD := hD0.self (sz := st.heap.size)
  generalize hAe : va_A [(s0, .inr (0, [.ref m0, .ref c0, .ref e0, .ref q1, .long (lN vr)])), (c0, .inr (2, [.ref k1, .ref k2, .ref k3, .ref k4, .ref k5, .int (nI cc), .int (nI gc), .int (nI oc)])), (k4, .inl (cI, 16, .inl (fun c => nI (ol c))))] st.heap.size = A at hD ⊢
  have hA : ∀ q : Nat, st.heap.size ≤ q → A q := fun q h => by rw [← hAe]; exact Or.inr h
  have hS : va_S A st.heap st.heap [] := va_S.rf
  have hl := lv_entry ([.ref s0, .int (nI a)]) (n := 2) (Nat.le_of_ble_eq_true rfl)
  rw [lg_entry_eq]
  generalize (lg_sl ([.ref s0, .int (nI a)]) ++ List.replicate (2 - (lg_sl ([.ref s0, .int (nI a)])).length) Slot.unset).toArray = ls at hl ⊢
  have hl : lv_has ls 2 [(0, .ref s0), (1, .int (nI a))] := hl
  refine lv_aload_n hx hb d_S_output_0 rfl (lv_at hl 0 rfl) ?_
  refine lv_iload_n hx hb d_S_output_1 rfl (lv_at hl 1 rfl) ?_
  refine va_csv (va_Run.run (va_runV (As := [.int (nI a)]) (rest := []) ⟨hx, hb, hml, hown, hts⟩ (c_S_requireLine l dC dI cI cL s0 m0 c0 e0 q1 vr k1 k2 k3 k4 k5 cc gc oc a ha hl1) (cwV 1 hts (gi_V kw_367 kw_369 ks_S_requireLine kw_1 gi_S_requireLine) rfl rfl rfl ⟨rfl, by decide, by decide, by decide⟩ ⟨Nat.le_of_ble_eq_true rfl, Nat.le_of_ble_eq_true rfl⟩) (wq_preVR hP hK hN [0, 1] rfl (q0 := 0) (ci := 0) rfl rfl rfl) rfl rfl hl.1 rfl (lv_room (Nat.le_of_ble_eq_true rfl)) d_S_output_2 ⟨Nat.le_of_ble_eq_true rfl, Nat.le_of_ble_eq_true rfl⟩)) (fun q1_ => ?_)
  refine lv_aload_n hx hb d_S_output_5 rfl (lv_at hl 0 rfl) ?_
  refine va_get (D := (dC, dI)) (ci := 0) (v := .ref c0) (C := R_S) (T := F_S) (N := 5) hx hb hts in_S hown hK hP 0 rfl rfl 1 (by decide) (hts _ kw_95) (fun _ h9 => h9) rfl d_S_output_6 ?_
  refine va_getN (D := (dC, dI)) (ci := 2) (v := .int (nI oc)) (C := R_C) (T := F_C) (N := 8) hx hb hts in_C hown hK hP 1 rfl rfl 7 (by decide) (nw_use hN kw_60) (fun _ h9 => h9) rfl d_S_output_9 ?_
  refine lv_bipush (v := nI 16) hx hb d_S_output_12 (by decide) ?_
  refine lv_icmp_lt (tgt := 27) hx hb d_S_output_14 (by decide) (fun _ => ?_) (fun hc => absurd hc (fun z => z ((nI_ltI (by omega) (by decide)).mpr hoc)))
  refine lv_aload_n hx hb d_S_output_27 rfl (lv_at hl 0 rfl) ?_
  refine va_get (D := (dC, dI)) (ci := 0) (v := .ref c0) (C := R_S) (T := F_S) (N := 5) hx hb hts in_S hown hK hP 0 rfl rfl 1 (by decide) (hts _ kw_95) (fun _ h9 => h9) rfl d_S_output_28 ?_
  refine lv_iload_n hx hb d_S_output_31 rfl (lv_at hl 1 rfl) ?_
  refine wq_i (wr := [(s0, .inr (0, [.ref m0, .ref c0, .ref e0, .ref q1, .long (lN vr)]))]) (va_runVN (As := [.int (nI a)]) (rest := []) ⟨hx, hb, hml, hown, hts⟩ (c_C_addOutput l dC dI cI cL st.heap.size c0 k1 k2 k3 k4 k5 cc gc oc ol a hoc) ⟨va_cnB 1 hts gi_C_addOutput rfl rfl rfl (hN _ kw_405) (hts _ kw_3) ⟨by decide, by decide, by decide⟩ ⟨Nat.le_of_ble_eq_true rfl, Nat.le_of_ble_eq_true rfl⟩, hts _ kw_407, hts _ ks_C_addOutput⟩ (wq_preVW hP hD hK hN [1, 2] rfl rfl (q0 := 1) (ci := 2) rfl rfl rfl) rfl rfl hl.1 rfl (lv_room (Nat.le_of_ble_eq_true rfl)) d_S_output_32 ⟨Nat.le_of_ble_eq_true rfl, Nat.le_of_ble_eq_true rfl⟩) hP hD hS hA [1, 2] [0] rfl rfl rfl (by decide) (fun r u H locs hq hP hD hS hz => ?_)
  have hP : va_P (dC, dI) classes [(s0, .inr (0, [.ref m0, .ref c0, .ref e0, .ref q1, .long (lN vr)])), (c0, .inr (2, [.ref k1, .ref k2, .ref k3, .ref k4, .ref k5, .int (nI cc), .int (nI gc), .int (nI (oc + 1))])), (k4, .inl (cI, 16, .inl (fun c => nI ((va_up ol oc a) c))))] H := hP
  have hD : va_D A [(s0, .inr (0, [.ref m0, .ref c0, .ref e0, .ref q1, .long (lN vr)])), (c0, .inr (2, [.ref k1, .ref k2, .ref k3, .ref k4, .ref k5, .int (nI cc), .int (nI gc), .int (nI (oc + 1))])), (k4, .inl (cI, 16, .inl (fun c => nI ((va_up ol oc a) c))))] := hD
  subst hq
  have hP := hP.sub (ws' := [(s0, .inr (0, [.ref m0, .ref c0, .ref e0, .ref q1, .long (lN vr)])), (c0, .inr (2, [.ref k1, .ref k2, .ref k3, .ref k4, .ref k5, .int (nI cc), .int (nI gc), .int (nI (oc + 1))])), (k4, .inl (cI, 16, .inl (fun c => nI ((va_up ol oc a) c))))]) [0, 1, 2] rfl
  have hD := hD.sub (ws' := [(s0, .inr (0, [.ref m0, .ref c0, .ref e0, .ref q1, .long (lN vr)])), (c0, .inr (2, [.ref k1, .ref k2, .ref k3, .ref k4, .ref k5, .int (nI cc), .int (nI gc), .int (nI (oc + 1))])), (k4, .inl (cI, 16, .inl (fun c => nI ((va_up ol oc a) c))))]) [0, 1, 2] (by decide) rfl
  exact W.iret (v := nI oc) hx hb hr (fun t ht hW => ⟨⟨nI oc, (), rfl, rfl, by rw [ht]; exact hP, va_K.moved hW.alike hK, hD⟩, hS.F ht⟩) hS.2.2 d_S_output_35
set_option maxHeartbeats 4000000 in
set_option maxRecDepth 100000 in
theorem x_S_outputA (l : Launch) (dC : Nat → ClassId) (dI : Nat → Nat → Nat) (cI cL : ClassId) (hlt : l.stackTraces = false) (sz : Nat) (s0 m0 c0 e0 q1 : Nat) (vr : Nat) (k1 k2 k3 k4 k5 : Nat) (cc gc oc : Nat) (y1 : Int32) (hy : y1 < 0 ∨ ¬ y1 < nI (cc + gc)) : vx_Met l y_S_output w_S_output ({ frames := 7, cells := 1, slots := 6, locals := 103 } : Room) (va_Pc [.ref s0, .int y1] (wq_X (dC, dI) classes [(s0, .inr (0, [.ref m0, .ref c0, .ref e0, .ref q1, .long (lN vr)])), (c0, .inr (2, [.ref k1, .ref k2, .ref k3, .ref k4, .ref k5, .int (nI cc), .int (nI gc), .int (nI oc)]))] [(cI, .int), (cL, .long)] sz)) (xq_i sz) (xq "java/lang/IndexOutOfBoundsException" sz) 1 6 (fun q => sz ≤ q) := by
  refine vx_ofW (cc := b_S_output) (maxL := 2) (ret := (Option.some Jvm.ClassFile.FieldType.int)) (by decide) rfl ?_
  intro pg en st mm ar bw me co s₁ B hml hex hv
  obtain ⟨rfl, hsz, ⟨hP, hK, hN⟩, hE, hZ⟩ := hv
  subst hsz
  have hx := B.exec
  have hb := B.bytes
  have hr := B.returns
  have hlocks := B.notSynchronized
  have hts0 := atoms_spec (ws := w_S_output) B.pre
  have hts : ∀ w ∈ gw, w.before _ st = true := fun w h => hts0 w (List.mem_cons_of_mem _ h)
  have hown : st.vm.findClass R_S = some mm.cls := findClass_of_methodNamed B.named
  have hl := lv_entry ([.ref s0, .int y1]) (n := 2) (Nat.le_of_ble_eq_true rfl)
  rw [lg_entry_eq]
  generalize (lg_sl ([.ref s0, .int y1]) ++ List.replicate (2 - (lg_sl ([.ref s0, .int y1])).length) Slot.unset).toArray = ls at hl ⊢
  have hl : lv_has ls 2 [(0, .ref s0), (1, .int y1)] := hl
  refine lv_aload_n hx hb d_S_output_0 rfl (lv_at hl 0 rfl) ?_
  refine lv_iload_n hx hb d_S_output_1 rfl (lv_at hl 1 rfl) ?_
  exact xq_cv (cells := 0) (slots := 0) (mc := 1) (ms := 6) (MC := 1) (MS := 6) (vx_runV (As := [.int y1]) (rest := []) ⟨hx, hb, hml, hown, hts⟩ (x_S_requireLine l dC dI cI cL hlt st.heap.size s0 m0 c0 e0 q1 vr k1 k2 k3 k4 k5 cc gc oc y1 hy) (cwV 1 hts (gi_V kw_367 kw_369 ks_S_requireLine kw_1 gi_S_requireLine) rfl rfl rfl ⟨rfl, by decide, by decide, by decide⟩ ⟨Nat.le_of_ble_eq_true rfl, Nat.le_of_ble_eq_true rfl⟩) (wq_preVX hP hK hN hE hZ [0, 1] rfl (q0 := 0) (ci := 0) rfl rfl rfl) rfl rfl hl.1 rfl (lv_room (Nat.le_of_ble_eq_true rfl)) d_S_output_2 ⟨Nat.le_of_ble_eq_true rfl, Nat.le_of_ble_eq_true rfl⟩) hex hlocks (Nat.le_of_ble_eq_true rfl) (Nat.le_of_ble_eq_true rfl)
set_option maxHeartbeats 4000000 in
set_option maxRecDepth 100000 in
theorem x_S_outputF (l : Launch) (dC : Nat → ClassId) (dI : Nat → Nat → Nat) (cI cL : ClassId) (hlt : l.stackTraces = false) (sz : Nat) (s0 m0 c0 e0 q1 : Nat) (vr : Nat) (k1 k2 k3 k4 k5 : Nat) (cc gc oc : Nat) (a : Nat) (ha : a < cc + gc) (hl1 : cc + gc < 2 ^ 31) (hoc : oc = 16) : vx_Met l y_S_output w_S_output ({ frames := 6, cells := 1, slots := 6, locals := 82 } : Room) (va_Pc [.ref s0, .int (nI a)] (wq_X (dC, dI) classes [(s0, .inr (0, [.ref m0, .ref c0, .ref e0, .ref q1, .long (lN vr)])), (c0, .inr (2, [.ref k1, .ref k2, .ref k3, .ref k4, .ref k5, .int (nI cc), .int (nI gc), .int (nI oc)]))] [(cI, .int), (cL, .long)] sz)) (xq_i sz) (xq "java/lang/IllegalStateException" sz) 1 6 (fun q => sz ≤ q) := by
  refine vx_ofW (cc := b_S_output) (maxL := 2) (ret := (Option.some Jvm.ClassFile.FieldType.int)) (by decide) rfl ?_
  intro pg en st mm ar bw me co s₁ B hml hex hv
  obtain ⟨rfl, hsz, ⟨hP, hK, hN⟩, hE, hZ⟩ := hv
  subst hsz
  have hx := B.exec
  have hb := B.bytes
  have hr := B.returns
  have hlocks := B.notSynchronized
  have hts0 := atoms_spec (ws := w_S_output) B.pre
  have hts : ∀ w ∈ gw, w.before _ st = true := fun w h => hts0 w (List.mem_cons_of_mem _ h)
  have hown : st.vm.findClass R_S = some mm.cls := findClass_of_methodNamed B.named
  have hl := lv_entry ([.ref s0, .int (nI a)]) (n := 2) (Nat.le_of_ble_eq_true rfl)
  rw [lg_entry_eq]
  generalize (lg_sl ([.ref s0, .int (nI a)]) ++ List.replicate (2 - (lg_sl ([.ref s0, .int (nI a)])).length) Slot.unset).toArray = ls at hl ⊢
  have hl : lv_has ls 2 [(0, .ref s0), (1, .int (nI a))] := hl
  refine lv_aload_n hx hb d_S_output_0 rfl (lv_at hl 0 rfl) ?_
  refine lv_iload_n hx hb d_S_output_1 rfl (lv_at hl 1 rfl) ?_
  refine va_csv (va_Run.run (va_runV (As := [.int (nI a)]) (rest := []) ⟨hx, hb, hml, hown, hts⟩ (c_S_requireLine l dC dI cI cL s0 m0 c0 e0 q1 vr k1 k2 k3 k4 k5 cc gc oc a ha hl1) (cwV 1 hts (gi_V kw_367 kw_369 ks_S_requireLine kw_1 gi_S_requireLine) rfl rfl rfl ⟨rfl, by decide, by decide, by decide⟩ ⟨Nat.le_of_ble_eq_true rfl, Nat.le_of_ble_eq_true rfl⟩) (wq_preVR hP hK hN [0, 1] rfl (q0 := 0) (ci := 0) rfl rfl rfl) rfl rfl hl.1 rfl (lv_room (Nat.le_of_ble_eq_true rfl)) d_S_output_2 ⟨Nat.le_of_ble_eq_true rfl, Nat.le_of_ble_eq_true rfl⟩)) (fun q1_ => ?_)
  refine lv_aload_n hx hb d_S_output_5 rfl (lv_at hl 0 rfl) ?_
  refine va_get (D := (dC, dI)) (ci := 0) (v := .ref c0) (C := R_S) (T := F_S) (N := 5) hx hb hts in_S hown hK hP 0 rfl rfl 1 (by decide) (hts _ kw_95) (fun _ h9 => h9) rfl d_S_output_6 ?_
  refine va_getN (D := (dC, dI)) (ci := 2) (v := .int (nI oc)) (C := R_C) (T := F_C) (N := 8) hx hb hts in_C hown hK hP 1 rfl rfl 7 (by decide) (nw_use hN kw_60) (fun _ h9 => h9) rfl d_S_output_9 ?_
  refine lv_bipush (v := nI 16) hx hb d_S_output_12 (by decide) ?_
  refine lv_icmp_lt (tgt := 27) hx hb d_S_output_14 (by decide) (fun hc => absurd hc (show ¬ nI oc < nI 16 from by rw [hoc]; decide)) (fun _ => ?_)
  obtain ⟨sa, hstr⟩ := hE.2 _ xs_125
  exact vx_throwS (R := (headSpec w_S_output ({ frames := 6, cells := 1, slots := 6, locals := 82 } : Room)).room) (rest := []) (cells := 0) (slots := 0) (mc := 1) (ms := 6) (names := ["java/lang/RuntimeException", "java/lang/Exception"]) hx hb hlt hown (by decide) (by decide) (hts _ xt_IS_k) (hts _ xt_IS_i) hstr (xt_IS hts hE) xt_IS_o hZ.1 hZ.2 va_S.rf (hl.1.trans hml.symm) d_S_output_17 d_S_output_20 d_S_output_21 d_S_output_23 d_S_output_26 (fun x hx => (hex x hx).elim) (Nat.le_of_ble_eq_true rfl) (Nat.le_of_ble_eq_true rfl) (Nat.le_of_ble_eq_true rfl) (Nat.le_of_ble_eq_true rfl) hlocks xq_hx (fun _ h => nomatch h) (Nat.le_of_ble_eq_true rfl) (Nat.le_of_ble_eq_true rfl)
