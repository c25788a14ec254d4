/-! contracts of Circuit; laid by a program -/
set_option maxHeartbeats 4000000 in
set_option maxRecDepth 100000 in
theorem c_C_countLines (l : Launch) (dC : Nat → ClassId) (dI : Nat → Nat → Nat) (cI cL : ClassId) (h0 k1 k2 k3 k4 k5 : Nat) (cc gc oc : Nat) : Met l y_C_countLines w_C_countLines ({ frames := 0, cells := 0, slots := 0, locals := 0 } : Room) (va_Pc [.ref h0] (wq_R (dC, dI) classes [(h0, .inr (2, [.ref k1, .ref k2, .ref k3, .ref k4, .ref k5, .int (nI cc), .int (nI gc), .int (nI oc)]))] [(cI, .int), (cL, .long)])) (vp_Si (fun r => r = nI (cc + gc))) 0 0 (fun _ => False) := by
  refine Met.ofW (cc := b_C_countLines) (maxL := 1) (ret := (Option.some Jvm.ClassFile.FieldType.int)) (by decide) rfl ?_
  intro pg en st mm ar bw me co s₁ B hml hv
  obtain ⟨rfl, hP, hK, hN⟩ := hv
  have hx := B.exec
  have hb := B.bytes
  have hr := B.returns
  have hlocks := B.notSynchronized
  have hts0 := atoms_spec (ws := w_C_countLines) B.pre
  have hts : ∀ w ∈ gw, w.before _ st = true := fun w h => hts0 w (List.mem_cons_of_mem _ h)
  have hown : st.vm.findClass R_C = some mm.cls := findClass_of_methodNamed B.named
  have hl := lv_entry ([.ref h0]) (n := 1) (Nat.le_of_ble_eq_true rfl)
  rw [lg_entry_eq]
  generalize (lg_sl ([.ref h0]) ++ List.replicate (1 - (lg_sl ([.ref h0])).length) Slot.unset).toArray = ls at hl ⊢
  have hl : lv_has ls 1 [(0, .ref h0)] := hl
  refine lv_aload_n hx hb d_C_countLines_0 rfl (lv_at hl 0 rfl) ?_
  refine va_get (D := (dC, dI)) (ci := 2) (v := .int (nI cc)) (C := R_C) (T := F_C) (N := 8) hx hb hts in_C hown hK hP 0 rfl rfl 5 (by decide) (hts _ kw_54) (fun _ h9 => h9) rfl d_C_countLines_1 ?_
  refine lv_aload_n hx hb d_C_countLines_4 rfl (lv_at hl 0 rfl) ?_
  refine va_get (D := (dC, dI)) (ci := 2) (v := .int (nI gc)) (C := R_C) (T := F_C) (N := 8) hx hb hts in_C hown hK hP 0 rfl rfl 6 (by decide) (hts _ kw_56) (fun _ h9 => h9) rfl d_C_countLines_5 ?_
  refine lv_iadd hx hb d_C_countLines_8 ?_
  refine lv_topi (nm_r (show _ = nI (cc + gc) from nI_add cc gc) ?_)
  exact W.iret (v := nI (cc + gc)) hx hb hr (fun t ht hW => ⟨nI (cc + gc), rfl, rfl, ht⟩) (fun _ h => nomatch h) d_C_countLines_9
set_option maxHeartbeats 4000000 in
set_option maxRecDepth 100000 in
theorem c_C_countFaults (l : Launch) (dC : Nat → ClassId) (dI : Nat → Nat → Nat) (cI cL : ClassId) (h0 k1 k2 k3 k4 k5 : Nat) (cc gc oc : Nat) : Met l y_C_countFaults w_C_countFaults ({ frames := 1, cells := 0, slots := 0, locals := 20 } : Room) (va_Pc [.ref h0] (wq_R (dC, dI) classes [(h0, .inr (2, [.ref k1, .ref k2, .ref k3, .ref k4, .ref k5, .int (nI cc), .int (nI gc), .int (nI oc)]))] [(cI, .int), (cL, .long)])) (vp_Si (fun r => r = nI (2 * (cc + gc)))) 0 0 (fun _ => False) := by
  refine Met.ofW (cc := b_C_countFaults) (maxL := 1) (ret := (Option.some Jvm.ClassFile.FieldType.int)) (by decide) rfl ?_
  intro pg en st mm ar bw me co s₁ B hml hv
  obtain ⟨rfl, hP, hK, hN⟩ := hv
  have hx := B.exec
  have hb := B.bytes
  have hr := B.returns
  have hlocks := B.notSynchronized
  have hts0 := atoms_spec (ws := w_C_countFaults) B.pre
  have hts : ∀ w ∈ gw, w.before _ st = true := fun w h => hts0 w (List.mem_cons_of_mem _ h)
  have hown : st.vm.findClass R_C = some mm.cls := findClass_of_methodNamed B.named
  have hl := lv_entry ([.ref h0]) (n := 1) (Nat.le_of_ble_eq_true rfl)
  rw [lg_entry_eq]
  generalize (lg_sl ([.ref h0]) ++ List.replicate (1 - (lg_sl ([.ref h0])).length) Slot.unset).toArray = ls at hl ⊢
  have hl : lv_has ls 1 [(0, .ref h0)] := hl
  refine lv_iconst (v := nI 2) hx hb d_C_countFaults_0 (by decide) ?_
  refine lv_aload_n hx hb d_C_countFaults_1 rfl (lv_at hl 0 rfl) ?_
  refine vp_callSi (va_Run.run (va_runV (As := []) (rest := [.int (nI 2)]) ⟨hx, hb, hml, hown, hts⟩ (c_C_countLines l dC dI cI cL h0 k1 k2 k3 k4 k5 cc gc oc) (cwV 0 hts (gi_V kw_396 kw_373 ks_C_countLines kw_3 gi_C_countLines) rfl rfl rfl ⟨rfl, by decide, by decide, by decide⟩ ⟨Nat.le_of_ble_eq_true rfl, Nat.le_of_ble_eq_true rfl⟩) (wq_preVR hP hK hN [0] rfl (q0 := 0) (ci := 2) rfl rfl rfl) rfl rfl hl.1 rfl (lv_room (Nat.le_of_ble_eq_true rfl)) d_C_countFaults_2 ⟨Nat.le_of_ble_eq_true rfl, Nat.le_of_ble_eq_true rfl⟩)) (fun r hq => ?_)
  subst hq
  refine lv_imul hx hb d_C_countFaults_5 ?_
  refine lv_topi (nm_r (show _ = nI (2 * (cc + gc)) from pk_mul 2 (cc + gc)) ?_)
  exact W.iret (v := nI (2 * (cc + gc))) hx hb hr (fun t ht hW => ⟨nI (2 * (cc + gc)), rfl, rfl, ht⟩) (fun _ h => nomatch h) d_C_countFaults_6
set_option maxHeartbeats 4000000 in
set_option maxRecDepth 100000 in
theorem c_C_valuesOfOutput (l : Launch) (dC : Nat → ClassId) (dI : Nat → Nat → Nat) (cI cL : ClassId) (h0 k1 k2 k3 k4 k5 : Nat) (cc gc oc : Nat) (kd lf rg ol vv : Nat → Nat) (hk : ck cc gc oc kd lf rg ol) (i : Nat) (hi : i < oc) : Met l y_C_valuesOfOutput w_C_valuesOfOutput ({ frames := 0, cells := 0, slots := 0, locals := 0 } : Room) (va_Pc [.ref h0, .int (nI i)] (wq_R (dC, dI) classes [(h0, .inr (2, [.ref k1, .ref k2, .ref k3, .ref k4, .ref k5, .int (nI cc), .int (nI gc), .int (nI oc)])), (k4, .inl (cI, 16, .inl (fun c => nI (ol c)))), (k5, .inl (cL, 32, .inr (.inl (fun c => lN (vv c)))))] [(cI, .int), (cL, .long)])) (vp_Sl (fun r => r = lN (vv (ol i)))) 0 0 (fun _ => False) := by
  refine Met.ofW (cc := b_C_valuesOfOutput) (maxL := 2) (ret := (Option.some Jvm.ClassFile.FieldType.long)) (by decide) rfl ?_
  intro pg en st mm ar bw me co s₁ B hml hv
  obtain ⟨rfl, hP, hK, hN⟩ := hv
  have hx := B.exec
  have hb := B.bytes
  have hr := B.returns
  have hlocks := B.notSynchronized
  have hts0 := atoms_spec (ws := w_C_valuesOfOutput) B.pre
  have hts : ∀ w ∈ gw, w.before _ st = true := fun w h => hts0 w (List.mem_cons_of_mem _ h)
  have hown : st.vm.findClass R_C = some mm.cls := findClass_of_methodNamed B.named
  have hl := lv_entry ([.ref h0, .int (nI i)]) (n := 2) (Nat.le_of_ble_eq_true rfl)
  rw [lg_entry_eq]
  generalize (lg_sl ([.ref h0, .int (nI i)]) ++ List.replicate (2 - (lg_sl ([.ref h0, .int (nI i)])).length) Slot.unset).toArray = ls at hl ⊢
  have hl : lv_has ls 2 [(0, .ref h0), (1, .int (nI i))] := hl
  have h1 := hk.2.2.2.2 i hi
  have h2 := hk.1
  have h3 := hk.2.1
  have h4 := hk.2.2.1
  refine lv_aload_n hx hb d_C_valuesOfOutput_0 rfl (lv_at hl 0 rfl) ?_
  refine va_get (D := (dC, dI)) (ci := 2) (v := .ref k5) (C := R_C) (T := F_C) (N := 8) hx hb hts in_C hown hK hP 0 rfl rfl 4 (by decide) (hts _ kw_53) (fun _ h9 => h9) rfl d_C_valuesOfOutput_1 ?_
  refine lv_aload_n hx hb d_C_valuesOfOutput_4 rfl (lv_at hl 0 rfl) ?_
  refine va_get (D := (dC, dI)) (ci := 2) (v := .ref k4) (C := R_C) (T := F_C) (N := 8) hx hb hts in_C hown hK hP 0 rfl rfl 3 (by decide) (hts _ kw_52) (fun _ h9 => h9) rfl d_C_valuesOfOutput_5 ?_
  refine lv_iload_n hx hb d_C_valuesOfOutput_8 rfl (lv_at hl 1 rfl) ?_
  refine va_iald (D := (dC, dI)) hx hb hK hP 1 0 rfl rfl (vp_in_nI (by omega) (by decide)) d_C_valuesOfOutput_9 ?_
  refine lv_topi (nm_r (show _ = nI (ol i) from congrArg (fun c => nI (ol c)) (nI_clamp (by omega))) ?_)
  refine va_lald (D := (dC, dI)) hx hb hK hP 2 1 rfl rfl (vp_in_nI (by omega) (by decide)) d_C_valuesOfOutput_10 ?_
  refine lv_topl (nm_r (show _ = lN (vv (ol i)) from congrArg (fun c => lN (vv c)) (nI_clamp (by omega))) ?_)
  exact W.lret (v := lN (vv (ol i))) hx hb hr (fun t ht hW => ⟨lN (vv (ol i)), rfl, rfl, ht⟩) (fun _ h => nomatch h) d_C_valuesOfOutput_11
set_option maxHeartbeats 4000000 in
set_option maxRecDepth 100000 in
theorem c_C_spread (l : Launch) (b : Nat) (hb0 : b < 2 ^ 32) : Met l y_C_spread w_C_spread ({ frames := 0, cells := 0, slots := 0, locals := 0 } : Room) (va_Pc [.int (nI b)] (fun _ => True)) (vp_Sl (fun r => r = lN (ci_p (b.testBit 0)))) 0 0 (fun _ => False) := by
  refine Met.ofW (cc := b_C_spread) (maxL := 1) (ret := (Option.some Jvm.ClassFile.FieldType.long)) (by decide) rfl ?_
  intro pg en st mm ar bw me co s₁ B hml hv
  obtain ⟨rfl, -⟩ := hv
  have hx := B.exec
  have hb := B.bytes
  have hr := B.returns
  have hlocks := B.notSynchronized
  have hts0 := atoms_spec (ws := w_C_spread) B.pre
  have hts : ∀ w ∈ gw, w.before _ st = true := fun w h => hts0 w (List.mem_cons_of_mem _ h)
  have hown : st.vm.findClass R_C = some mm.cls := findClass_of_methodNamed B.named
  have hl := lv_entry ([.int (nI b)]) (n := 1) (Nat.le_of_ble_eq_true rfl)
  rw [lg_entry_eq]
  generalize (lg_sl ([.int (nI b)]) ++ List.replicate (1 - (lg_sl ([.int (nI b)])).length) Slot.unset).toArray = ls at hl ⊢
  have hl : lv_has ls 1 [(0, .int (nI b))] := hl
  refine lv_iload_n hx hb d_C_spread_0 rfl (lv_at hl 0 rfl) ?_
  refine lv_iconst (v := nI 1) hx hb d_C_spread_1 (by decide) ?_
  refine lv_iand hx hb d_C_spread_2 ?_
  refine lv_topi (nm_r (show _ = nI (b % 2) from nI_and1 hb0) ?_)
  refine lv_i2l (v := lN (b % 2)) hx hb d_C_spread_3 (nI_l (by omega)) ?_
  refine lv_lneg hx hb d_C_spread_4 ?_
  refine lv_topl (nm_r (show _ = lN (ci_p (b.testBit 0)) from neg_sp b) ?_)
  exact W.lret (v := lN (ci_p (b.testBit 0))) hx hb hr (fun t ht hW => ⟨lN (ci_p (b.testBit 0)), rfl, rfl, ht⟩) (fun _ h => nomatch h) d_C_spread_5
set_option maxHeartbeats 4000000 in
set_option maxRecDepth 100000 in
theorem c_C_withStuck (l : Launch) (v k : Nat) (hv0 : v < 2 ^ 64) (hk : k < 32) : Met l y_C_withStuck w_C_withStuck ({ frames := 0, cells := 0, slots := 0, locals := 0 } : Room) (va_Pc [.long (lN v), .int (nI k)] (fun _ => True)) (vp_Sl (fun r => r = lN (ci_k v k))) 0 0 (fun _ => False) := by
  refine Met.ofW (cc := b_C_withStuck) (maxL := 7) (ret := (Option.some Jvm.ClassFile.FieldType.long)) (by decide) rfl ?_
  intro pg en st mm ar bw me co s₁ B hml hv
  obtain ⟨rfl, -⟩ := hv
  have hx := B.exec
  have hb := B.bytes
  have hr := B.returns
  have hlocks := B.notSynchronized
  have hts0 := atoms_spec (ws := w_C_withStuck) B.pre
  have hts : ∀ w ∈ gw, w.before _ st = true := fun w h => hts0 w (List.mem_cons_of_mem _ h)
  have hown : st.vm.findClass R_C = some mm.cls := findClass_of_methodNamed B.named
  have hl := lv_entry ([.long (lN v), .int (nI k)]) (n := 7) (Nat.le_of_ble_eq_true rfl)
  rw [lg_entry_eq]
  generalize (lg_sl ([.long (lN v), .int (nI k)]) ++ List.replicate (7 - (lg_sl ([.long (lN v), .int (nI k)])).length) Slot.unset).toArray = ls at hl ⊢
  have hl : lv_has ls 7 [(0, .long (lN v)), (2, .int (nI k))] := hl
  have h1 : 2 ^ (2 * k) < 2 ^ 64 := Nat.pow_lt_pow_right (by decide) (by omega)
  have h2 : 2 ^ (2 * k + 1) < 2 ^ 64 := Nat.pow_lt_pow_right (by decide) (by omega)
  have h3 : 2 ^ (2 * k) ^^^ (2 ^ 64 - 1) < 2 ^ 64 := Nat.xor_lt_two_pow h1 (by decide)
  refine lv_lconst (v := lN 1) hx hb d_C_withStuck_0 (by decide) ?_
  refine lv_iconst (v := nI 2) hx hb d_C_withStuck_1 (by decide) ?_
  refine lv_iload_n hx hb d_C_withStuck_2 rfl (lv_at hl 1 rfl) ?_
  refine lv_imul hx hb d_C_withStuck_3 ?_
  refine lv_topi (nm_r (show _ = nI (2 * k) from pk_mul 2 k) ?_)
  refine lv_lshl (v := lN (1 * 2 ^ (2 * k))) hx hb d_C_withStuck_4 (wb_shl 1 (by omega)) ?_
  refine lv_topl (nm_r (show _ = lN (2 ^ (2 * k)) from by rw [Nat.one_mul]) ?_)
  refine lv_lstore_n (lv' := [(3, .long (lN (2 ^ (2 * k)))), (0, .long (lN v)), (2, .int (nI k))]) hx hb d_C_withStuck_5 rfl hl (by decide) rfl (fun ls hl => ?_)
  refine lv_lload_n hx hb d_C_withStuck_6 rfl (lv_at hl 0 rfl) ?_
  refine lv_iconst (v := nI 1) hx hb d_C_withStuck_7 (by decide) ?_
  refine lv_lshl (v := lN (2 * 2 ^ (2 * k))) hx hb d_C_withStuck_8 (lN_shl1) ?_
  refine lv_topl (nm_r (show _ = lN (2 ^ (2 * k + 1)) from by rw [Nat.pow_succ, Nat.mul_comm]) ?_)
  refine lv_lstore (lv' := [(5, .long (lN (2 ^ (2 * k + 1)))), (3, .long (lN (2 ^ (2 * k)))), (0, .long (lN v)), (2, .int (nI k))]) hx hb d_C_withStuck_9 hl (by decide) rfl (fun ls hl => ?_)
  refine lv_lload_n hx hb d_C_withStuck_11 rfl (lv_at hl 2 rfl) ?_
  refine lv_lload_n hx hb d_C_withStuck_12 rfl (lv_at hl 1 rfl) ?_
  refine lv_ldc2 (v := (-1)) hx hb hown (hts _ kw_444) d_C_withStuck_13 ?_
  refine lv_lxor hx hb d_C_withStuck_16 ?_
  refine lv_topl (nm_r (show _ = lN (2 ^ (2 * k) ^^^ (2 ^ 64 - 1)) from lN_not _) ?_)
  refine lv_land hx hb d_C_withStuck_17 ?_
  refine lv_topl (nm_r (show _ = lN (v &&& (2 ^ (2 * k) ^^^ (2 ^ 64 - 1))) from wb_and hv0 h3) ?_)
  refine lv_lload hx hb d_C_withStuck_18 (lv_at hl 0 rfl) ?_
  refine lv_lor hx hb d_C_withStuck_20 ?_
  refine lv_topl (nm_r (show _ = lN (ci_k v k) from wb_or (Nat.lt_of_le_of_lt Nat.and_le_left hv0) h2) ?_)
  exact W.lret (v := lN (ci_k v k)) hx hb hr (fun t ht hW => ⟨lN (ci_k v k), rfl, rfl, ht⟩) (fun _ h => nomatch h) d_C_withStuck_21
set_option maxHeartbeats 4000000 in
set_option maxRecDepth 100000 in
theorem c_C_valuesOfGate (l : Launch) (dC : Nat → ClassId) (dI : Nat → Nat → Nat) (cI cL : ClassId) (h0 k1 k2 k3 k4 k5 : Nat) (cc gc oc : Nat) (kd lf rg ol vv : Nat → Nat) (hk : ck cc gc oc kd lf rg ol) (gg : Nat) (hg : gg < gc) (h1v : vv (lf gg) < 2 ^ 64) (h2v : vv (rg gg) < 2 ^ 64) : Met l y_C_valuesOfGate w_C_valuesOfGate ({ frames := 0, cells := 0, slots := 0, locals := 0 } : Room) (va_Pc [.ref h0, .int (nI gg)] (wq_R (dC, dI) classes [(h0, .inr (2, [.ref k1, .ref k2, .ref k3, .ref k4, .ref k5, .int (nI cc), .int (nI gc), .int (nI oc)])), (k1, .inl (cI, 24, .inl (fun c => nI (kd c)))), (k2, .inl (cI, 24, .inl (fun c => nI (lf c)))), (k3, .inl (cI, 24, .inl (fun c => nI (rg c)))), (k5, .inl (cL, 32, .inr (.inl (fun c => lN (vv c)))))] [(cI, .int), (cL, .long)])) (vp_Sl (fun r => r = lN (ci_g (kd gg) (vv (lf gg)) (vv (rg gg))))) 0 0 (fun _ => False) := by
  refine Met.ofW (cc := b_C_valuesOfGate) (maxL := 6) (ret := (Option.some Jvm.ClassFile.FieldType.long)) (by decide) rfl ?_
  intro pg en st mm ar bw me co s₁ B hml hv
  obtain ⟨rfl, hP, hK, hN⟩ := hv
  have hx := B.exec
  have hb := B.bytes
  have hr := B.returns
  have hlocks := B.notSynchronized
  have hts0 := atoms_spec (ws := w_C_valuesOfGate) B.pre
  have hts : ∀ w ∈ gw, w.before _ st = true := fun w h => hts0 w (List.mem_cons_of_mem _ h)
  have hown : st.vm.findClass R_C = some mm.cls := findClass_of_methodNamed B.named
  have hl := lv_entry ([.ref h0, .int (nI gg)]) (n := 6) (Nat.le_of_ble_eq_true rfl)
  rw [lg_entry_eq]
  generalize (lg_sl ([.ref h0, .int (nI gg)]) ++ List.replicate (6 - (lg_sl ([.ref h0, .int (nI gg)])).length) Slot.unset).toArray = ls at hl ⊢
  have hl : lv_has ls 6 [(0, .ref h0), (1, .int (nI gg))] := hl
  obtain ⟨hk5, hlf, hrg⟩ := hk.2.2.2.1 gg hg
  have h2 := hk.1
  have h3 := hk.2.1
  refine lv_aload_n hx hb d_C_valuesOfGate_0 rfl (lv_at hl 0 rfl) ?_
  refine va_get (D := (dC, dI)) (ci := 2) (v := .ref k5) (C := R_C) (T := F_C) (N := 8) hx hb hts in_C hown hK hP 0 rfl rfl 4 (by decide) (hts _ kw_53) (fun _ h9 => h9) rfl d_C_valuesOfGate_1 ?_
  refine lv_aload_n hx hb d_C_valuesOfGate_4 rfl (lv_at hl 0 rfl) ?_
  refine va_get (D := (dC, dI)) (ci := 2) (v := .ref k2) (C := R_C) (T := F_C) (N := 8) hx hb hts in_C hown hK hP 0 rfl rfl 1 (by decide) (hts _ kw_50) (fun _ h9 => h9) rfl d_C_valuesOfGate_5 ?_
  refine lv_iload_n hx hb d_C_valuesOfGate_8 rfl (lv_at hl 1 rfl) ?_
  refine va_iald (D := (dC, dI)) hx hb hK hP 2 0 rfl rfl (vp_in_nI (by omega) (by decide)) d_C_valuesOfGate_9 ?_
  refine lv_topi (nm_r (show _ = nI (lf gg) from congrArg (fun c => nI (lf c)) (nI_clamp (by omega))) ?_)
  refine va_lald (D := (dC, dI)) hx hb hK hP 4 1 rfl rfl (vp_in_nI (by omega) (by decide)) d_C_valuesOfGate_10 ?_
  refine lv_topl (nm_r (show _ = lN (vv (lf gg)) from congrArg (fun c => lN (vv c)) (nI_clamp (by omega))) ?_)
  refine lv_lstore_n (lv' := [(2, .long (lN (vv (lf gg)))), (0, .ref h0), (1, .int (nI gg))]) hx hb d_C_valuesOfGate_11 rfl hl (by decide) rfl (fun ls hl => ?_)
  refine lv_aload_n hx hb d_C_valuesOfGate_12 rfl (lv_at hl 1 rfl) ?_
  refine va_get (D := (dC, dI)) (ci := 2) (v := .ref k5) (C := R_C) (T := F_C) (N := 8) hx hb hts in_C hown hK hP 0 rfl rfl 4 (by decide) (hts _ kw_53) (fun _ h9 => h9) rfl d_C_valuesOfGate_13 ?_
  refine lv_aload_n hx hb d_C_valuesOfGate_16 rfl (lv_at hl 1 rfl) ?_
  refine va_get (D := (dC, dI)) (ci := 2) (v := .ref k3) (C := R_C) (T := F_C) (N := 8) hx hb hts in_C hown hK hP 0 rfl rfl 2 (by decide) (hts _ kw_51) (fun _ h9 => h9) rfl d_C_valuesOfGate_17 ?_
  refine lv_iload_n hx hb d_C_valuesOfGate_20 rfl (lv_at hl 2 rfl) ?_
  refine va_iald (D := (dC, dI)) hx hb hK hP 3 0 rfl rfl (vp_in_nI (by omega) (by decide)) d_C_valuesOfGate_21 ?_
  refine lv_topi (nm_r (show _ = nI (rg gg) from congrArg (fun c => nI (rg c)) (nI_clamp (by omega))) ?_)
  refine va_lald (D := (dC, dI)) hx hb hK hP 4 1 rfl rfl (vp_in_nI (by omega) (by decide)) d_C_valuesOfGate_22 ?_
  refine lv_topl (nm_r (show _ = lN (vv (rg gg)) from congrArg (fun c => lN (vv c)) (nI_clamp (by omega))) ?_)
  refine lv_lstore (lv' := [(4, .long (lN (vv (rg gg)))), (2, .long (lN (vv (lf gg)))), (0, .ref h0), (1, .int (nI gg))]) hx hb d_C_valuesOfGate_23 hl (by decide) rfl (fun ls hl => ?_)
  refine lv_aload_n hx hb d_C_valuesOfGate_25 rfl (lv_at hl 2 rfl) ?_
  refine va_get (D := (dC, dI)) (ci := 2) (v := .ref k1) (C := R_C) (T := F_C) (N := 8) hx hb hts in_C hown hK hP 0 rfl rfl 0 (by decide) (hts _ kw_49) (fun _ h9 => h9) rfl d_C_valuesOfGate_26 ?_
  refine lv_iload_n hx hb d_C_valuesOfGate_29 rfl (lv_at hl 3 rfl) ?_
  refine va_iald (D := (dC, dI)) hx hb hK hP 1 0 rfl rfl (vp_in_nI (by omega) (by decide)) d_C_valuesOfGate_30 ?_
  refine lv_topi (nm_r (show _ = nI (kd gg) from congrArg (fun c => nI (kd c)) (nI_clamp (by omega))) ?_)
  have hkk : kd gg = 0 ∨ kd gg = 1 ∨ kd gg = 2 ∨ kd gg = 3 ∨ kd gg = 4 ∨ kd gg = 5 := by omega
  rcases hkk with e | e | e | e | e | e
  · rw [e]
    refine lv_tableIn (off := 33) (tgt := 64) hx hb d_C_valuesOfGate_31 (by decide) (by decide) (by decide) (by decide) ?_
    refine lv_lload_n hx hb d_C_valuesOfGate_64 rfl (lv_at hl 1 rfl) ?_
    refine lv_lload hx hb d_C_valuesOfGate_65 (lv_at hl 0 rfl) ?_
    refine lv_land hx hb d_C_valuesOfGate_67 ?_
    refine lv_topl (nm_r (show _ = lN (ci_g 0 (vv (lf gg)) (vv (rg gg))) from wb_and h1v h2v) ?_)
    exact W.lret (v := lN (ci_g 0 (vv (lf gg)) (vv (rg gg)))) hx hb hr (fun t ht hW => ⟨lN (ci_g 0 (vv (lf gg)) (vv (rg gg))), rfl, rfl, ht⟩) (fun _ h => nomatch h) d_C_valuesOfGate_68
  · rw [e]
    refine lv_tableIn (off := 38) (tgt := 69) hx hb d_C_valuesOfGate_31 (by decide) (by decide) (by decide) (by decide) ?_
    refine lv_lload_n hx hb d_C_valuesOfGate_69 rfl (lv_at hl 1 rfl) ?_
    refine lv_lload hx hb d_C_valuesOfGate_70 (lv_at hl 0 rfl) ?_
    refine lv_lor hx hb d_C_valuesOfGate_72 ?_
    refine lv_topl (nm_r (show _ = lN (ci_g 1 (vv (lf gg)) (vv (rg gg))) from wb_or h1v h2v) ?_)
    exact W.lret (v := lN (ci_g 1 (vv (lf gg)) (vv (rg gg)))) hx hb hr (fun t ht hW => ⟨lN (ci_g 1 (vv (lf gg)) (vv (rg gg))), rfl, rfl, ht⟩) (fun _ h => nomatch h) d_C_valuesOfGate_73
  · rw [e]
    refine lv_tableIn (off := 43) (tgt := 74) hx hb d_C_valuesOfGate_31 (by decide) (by decide) (by decide) (by decide) ?_
    refine lv_lload_n hx hb d_C_valuesOfGate_74 rfl (lv_at hl 1 rfl) ?_
    refine lv_lload hx hb d_C_valuesOfGate_75 (lv_at hl 0 rfl) ?_
    refine lv_lxor hx hb d_C_valuesOfGate_77 ?_
    refine lv_topl (nm_r (show _ = lN (ci_g 2 (vv (lf gg)) (vv (rg gg))) from lN_xor _ _) ?_)
    exact W.lret (v := lN (ci_g 2 (vv (lf gg)) (vv (rg gg)))) hx hb hr (fun t ht hW => ⟨lN (ci_g 2 (vv (lf gg)) (vv (rg gg))), rfl, rfl, ht⟩) (fun _ h => nomatch h) d_C_valuesOfGate_78
  · rw [e]
    refine lv_tableIn (off := 48) (tgt := 79) hx hb d_C_valuesOfGate_31 (by decide) (by decide) (by decide) (by decide) ?_
    refine lv_lload_n hx hb d_C_valuesOfGate_79 rfl (lv_at hl 1 rfl) ?_
    refine lv_lload hx hb d_C_valuesOfGate_80 (lv_at hl 0 rfl) ?_
    refine lv_land hx hb d_C_valuesOfGate_82 ?_
    refine lv_topl (nm_r (show _ = lN (vv (lf gg) &&& vv (rg gg)) from wb_and h1v h2v) ?_)
    refine lv_ldc2 (v := (-1)) hx hb hown (hts _ kw_444) d_C_valuesOfGate_83 ?_
    refine lv_lxor hx hb d_C_valuesOfGate_86 ?_
    refine lv_topl (nm_r (show _ = lN (ci_g 3 (vv (lf gg)) (vv (rg gg))) from lN_not _) ?_)
    exact W.lret (v := lN (ci_g 3 (vv (lf gg)) (vv (rg gg)))) hx hb hr (fun t ht hW => ⟨lN (ci_g 3 (vv (lf gg)) (vv (rg gg))), rfl, rfl, ht⟩) (fun _ h => nomatch h) d_C_valuesOfGate_87
  · rw [e]
    refine lv_tableIn (off := 57) (tgt := 88) hx hb d_C_valuesOfGate_31 (by decide) (by decide) (by decide) (by decide) ?_
    refine lv_lload_n hx hb d_C_valuesOfGate_88 rfl (lv_at hl 1 rfl) ?_
    refine lv_lload hx hb d_C_valuesOfGate_89 (lv_at hl 0 rfl) ?_
    refine lv_lor hx hb d_C_valuesOfGate_91 ?_
    refine lv_topl (nm_r (show _ = lN (vv (lf gg) ||| vv (rg gg)) from wb_or h1v h2v) ?_)
    refine lv_ldc2 (v := (-1)) hx hb hown (hts _ kw_444) d_C_valuesOfGate_92 ?_
    refine lv_lxor hx hb d_C_valuesOfGate_95 ?_
    refine lv_topl (nm_r (show _ = lN (ci_g 4 (vv (lf gg)) (vv (rg gg))) from lN_not _) ?_)
    exact W.lret (v := lN (ci_g 4 (vv (lf gg)) (vv (rg gg)))) hx hb hr (fun t ht hW => ⟨lN (ci_g 4 (vv (lf gg)) (vv (rg gg))), rfl, rfl, ht⟩) (fun _ h => nomatch h) d_C_valuesOfGate_96
  · rw [e]
    refine lv_tableOut (tgt := 97) hx hb d_C_valuesOfGate_31 (by decide) (by decide) ?_
    refine lv_lload_n hx hb d_C_valuesOfGate_97 rfl (lv_at hl 1 rfl) ?_
    refine lv_ldc2 (v := (-1)) hx hb hown (hts _ kw_444) d_C_valuesOfGate_98 ?_
    refine lv_lxor hx hb d_C_valuesOfGate_101 ?_
    refine lv_topl (nm_r (show _ = lN (ci_g 5 (vv (lf gg)) (vv (rg gg))) from lN_not _) ?_)
    exact W.lret (v := lN (ci_g 5 (vv (lf gg)) (vv (rg gg)))) hx hb hr (fun t ht hW => ⟨lN (ci_g 5 (vv (lf gg)) (vv (rg gg))), rfl, rfl, ht⟩) (fun _ h => nomatch h) d_C_valuesOfGate_102
set_option maxHeartbeats 4000000 in
set_option maxRecDepth 100000 in
theorem c_C_settleN (l : Launch) (dC : Nat → ClassId) (dI : Nat → Nat → Nat) (cI cL : ClassId) (sz : Nat) (h0 k1 k2 k3 k4 k5 : Nat) (cc gc oc : Nat) (kd lf rg ol vv : Nat → Nat) (hk : ck cc gc oc kd lf rg ol) (pt : Nat) (hpt : pt < 2 ^ 32) : Met l y_C_settle w_C_settle ({ frames := 1, cells := 0, slots := 0, locals := 26 } : Room) (va_Pc [.ref h0, .int (nI pt), .int (nI 0)] (wq_W (dC, dI) classes [(h0, .inr (2, [.ref k1, .ref k2, .ref k3, .ref k4, .ref k5, .int (nI cc), .int (nI gc), .int (nI oc)])), (k1, .inl (cI, 24, .inl (fun c => nI (kd c)))), (k2, .inl (cI, 24, .inl (fun c => nI (lf c)))), (k3, .inl (cI, 24, .inl (fun c => nI (rg c)))), (k5, .inl (cL, 32, .inr (.inl (fun c => lN (vv c)))))] [(cI, .int), (cL, .long)] sz)) (va_Qv (fun (u : Nat → Nat) => ci_R cc kd lf rg pt (fun _ => none) (cc + gc) u) (fun (u : Nat → Nat) t => wq_B (dC, dI) classes [(cI, .int), (cL, .long)] (va_A [(h0, .inr (2, [.ref k1, .ref k2, .ref k3, .ref k4, .ref k5, .int (nI cc), .int (nI gc), .int (nI oc)])), (k1, .inl (cI, 24, .inl (fun c => nI (kd c)))), (k2, .inl (cI, 24, .inl (fun c => nI (lf c)))), (k3, .inl (cI, 24, .inl (fun c => nI (rg c)))), (k5, .inl (cL, 32, .inr (.inl (fun c => lN (vv c)))))] sz) [(h0, .inr (2, [.ref k1, .ref k2, .ref k3, .ref k4, .ref k5, .int (nI cc), .int (nI gc), .int (nI oc)])), (k1, .inl (cI, 24, .inl (fun c => nI (kd c)))), (k2, .inl (cI, 24, .inl (fun c => nI (lf c)))), (k3, .inl (cI, 24, .inl (fun c => nI (rg c)))), (k5, .inl (cL, 32, .inr (.inl (fun c => lN (u c)))))] t) (va_A [(h0, .inr (2, [.ref k1, .ref k2, .ref k3, .ref k4, .ref k5, .int (nI cc), .int (nI gc), .int (nI oc)])), (k1, .inl (cI, 24, .inl (fun c => nI (kd c)))), (k2, .inl (cI, 24, .inl (fun c => nI (lf c)))), (k3, .inl (cI, 24, .inl (fun c => nI (rg c)))), (k5, .inl (cL, 32, .inr (.inl (fun c => lN (vv c)))))] sz)) 0 0 (va_A [(h0, .inr (2, [.ref k1, .ref k2, .ref k3, .ref k4, .ref k5, .int (nI cc), .int (nI gc), .int (nI oc)])), (k1, .inl (cI, 24, .inl (fun c => nI (kd c)))), (k2, .inl (cI, 24, .inl (fun c => nI (lf c)))), (k3, .inl (cI, 24, .inl (fun c => nI (rg c)))), (k5, .inl (cL, 32, .inr (.inl (fun c => lN (vv c)))))] sz) := by
  refine Met.ofW (cc := b_C_settle) (maxL := 7) (ret := (Option.none : Option Jvm.ClassFile.FieldType)) (by decide) rfl ?_
  intro pg en st mm ar bw me co s₁ B hml hv
  obtain ⟨rfl, hsz, hP, hK, hD0, hN⟩ := hv
  have hx := B.exec
  have hb := B.bytes
  have hr := B.returns
  have hlocks := B.notSynchronized
  have hts0 := atoms_spec (ws := w_C_settle) B.pre
  have hts : ∀ w ∈ gw, w.before _ st = true := fun w h => hts0 w (List.mem_cons_of_mem _ h)
  have hown : st.vm.findClass R_C = some mm.cls := findClass_of_methodNamed B.named
  subst hsz
  have hD := hD0.self (sz := st.heap.size)
  generalize hAe : va_A [(h0, .inr (2, [.ref k1, .ref k2, .ref k3, .ref k4, .ref k5, .int (nI cc), .int (nI gc), .int (nI oc)])), (k1, .inl (cI, 24, .inl (fun c => nI (kd c)))), (k2, .inl (cI, 24, .inl (fun c => nI (lf c)))), (k3, .inl (cI, 24, .inl (fun c => nI (rg c)))), (k5, .inl (cL, 32, .inr (.inl (fun c => lN (vv c)))))] st.heap.size = A at hD ⊢
  have hA : ∀ q : Nat, st.heap.size ≤ q → A q := fun q h => by rw [← hAe]; exact Or.inr h
  have hS : va_S A st.heap st.heap [] := va_S.rf
  have hl := lv_entry ([.ref h0, .int (nI pt), .int (nI 0)]) (n := 7) (Nat.le_of_ble_eq_true rfl)
  rw [lg_entry_eq]
  generalize (lg_sl ([.ref h0, .int (nI pt), .int (nI 0)]) ++ List.replicate (7 - (lg_sl ([.ref h0, .int (nI pt), .int (nI 0)])).length) Slot.unset).toArray = ls at hl ⊢
  have hl : lv_has ls 7 [(0, .ref h0), (1, .int (nI pt)), (2, .int (nI 0))] := hl
  have h1 := hk.1
  have h2 := hk.2.1
  have loop : ∀ (j k : Nat) (u : Nat → Nat), j + k = cc + gc → ci_R cc kd lf rg pt (fun _ => none) k u → ∀ (H : Heap) (locs : List Loc), va_P (dC, dI) classes [(h0, .inr (2, [.ref k1, .ref k2, .ref k3, .ref k4, .ref k5, .int (nI cc), .int (nI gc), .int (nI oc)])), (k1, .inl (cI, 24, .inl (fun c => nI (kd c)))), (k2, .inl (cI, 24, .inl (fun c => nI (lf c)))), (k3, .inl (cI, 24, .inl (fun c => nI (rg c)))), (k5, .inl (cL, 32, .inr (.inl (fun c => lN (u c)))))] H → va_D A [(h0, .inr (2, [.ref k1, .ref k2, .ref k3, .ref k4, .ref k5, .int (nI cc), .int (nI gc), .int (nI oc)])), (k1, .inl (cI, 24, .inl (fun c => nI (kd c)))), (k2, .inl (cI, 24, .inl (fun c => nI (lf c)))), (k3, .inl (cI, 24, .inl (fun c => nI (rg c)))), (k5, .inl (cL, 32, .inr (.inl (fun c => lN (u c)))))] → va_S A st.heap H locs → ∀ (ls : Array Slot), lv_has ls 7 [(0, .ref h0), (1, .int (nI pt)), (2, .int (nI 0)), (3, .int (nI (cc + gc))), (4, .int (nI k))] → W pg l en (headSpec w_C_settle ({ frames := 1, cells := 0, slots := 0, locals := 26 } : Room)).room st mm ([.ref h0, .int (nI pt), .int (nI 0)] : List Value).toArray bw me co H locs 0 0 (MQ bw (va_Qv (fun (u : Nat → Nat) => ci_R cc kd lf rg pt (fun _ => none) (cc + gc) u) (fun (u : Nat → Nat) t => wq_B (dC, dI) classes [(cI, .int), (cL, .long)] A [(h0, .inr (2, [.ref k1, .ref k2, .ref k3, .ref k4, .ref k5, .int (nI cc), .int (nI gc), .int (nI oc)])), (k1, .inl (cI, 24, .inl (fun c => nI (kd c)))), (k2, .inl (cI, 24, .inl (fun c => nI (lf c)))), (k3, .inl (cI, 24, .inl (fun c => nI (rg c)))), (k5, .inl (cL, 32, .inr (.inl (fun c => lN (u c)))))] t) A) ([.ref h0, .int (nI pt), .int (nI 0)] : List Value).toArray st 0 0 A) (F0 mm 8 ls []) := by
    intro j
    induction j with
    | zero =>
      intro k u hj hR H locs hP hD hS ls hl
      refine lv_iload hx hb d_C_settle_8 (lv_at hl 4 rfl) ?_
      refine lv_iload_n hx hb d_C_settle_10 rfl (lv_at hl 3 rfl) ?_
      refine lv_icmp_ge (tgt := 75) hx hb d_C_settle_11 (by decide) (fun hc => ?_) (fun hc => ?_)
      · have hkk : k = cc + gc := by omega
        rw [hkk] at hR
        have hP := hP.sub (ws' := [(h0, .inr (2, [.ref k1, .ref k2, .ref k3, .ref k4, .ref k5, .int (nI cc), .int (nI gc), .int (nI oc)])), (k1, .inl (cI, 24, .inl (fun c => nI (kd c)))), (k2, .inl (cI, 24, .inl (fun c => nI (lf c)))), (k3, .inl (cI, 24, .inl (fun c => nI (rg c)))), (k5, .inl (cL, 32, .inr (.inl (fun c => lN (u c)))))]) [0, 1, 2, 3, 4] rfl
        have hD := hD.sub (ws' := [(h0, .inr (2, [.ref k1, .ref k2, .ref k3, .ref k4, .ref k5, .int (nI cc), .int (nI gc), .int (nI oc)])), (k1, .inl (cI, 24, .inl (fun c => nI (kd c)))), (k2, .inl (cI, 24, .inl (fun c => nI (lf c)))), (k3, .inl (cI, 24, .inl (fun c => nI (rg c)))), (k5, .inl (cL, 32, .inr (.inl (fun c => lN (u c)))))]) [0, 1, 2, 3, 4] (by decide) rfl
        exact W.vret hx hb hr (fun t ht hW => ⟨⟨u, rfl, hR, by rw [ht]; exact hP, va_K.moved hW.alike hK, hD⟩, hS.F ht⟩) hS.2.2 d_C_settle_75
      · exact absurd ((nI_leI (by omega) (by omega)).mpr (by omega)) hc
    | succ j ih =>
      intro k u hj hR H locs hP hD hS ls hl
      have hkl : k < cc + gc := by omega
      have hgl := ck_line hk hkl
      have hwl := ci_w_lt hR hgl
      refine lv_iload hx hb d_C_settle_8 (lv_at hl 4 rfl) ?_
      refine lv_iload_n hx hb d_C_settle_10 rfl (lv_at hl 3 rfl) ?_
      refine lv_icmp_ge (tgt := 75) hx hb d_C_settle_11 (by decide) (fun hc => ?_) (fun hc => ?_)
      · exact absurd ((nI_leI (by omega) (by omega)).mp hc) (by omega)
      · refine lv_iload hx hb d_C_settle_14 (lv_at hl 4 rfl) ?_
        refine lv_aload_n hx hb d_C_settle_16 rfl (lv_at hl 0 rfl) ?_
        refine va_get (D := (dC, dI)) (ci := 2) (v := .int (nI cc)) (C := R_C) (T := F_C) (N := 8) hx hb hts in_C hown hK hP 0 rfl rfl 5 (by decide) (hts _ kw_54) (fun _ h9 => h9) rfl d_C_settle_17 ?_
        refine lv_icmp_ge (tgt := 33) hx hb d_C_settle_20 (by decide) (fun hc2 => ?_) (fun hc2 => ?_)
        · have hc2 : cc ≤ k := (nI_leI (by omega) (by omega)).mp hc2
          obtain ⟨hl1, hl2⟩ := hgl hc2
          refine lv_aload_n hx hb d_C_settle_33 rfl (lv_at hl 0 rfl) ?_
          refine lv_iload hx hb d_C_settle_34 (lv_at hl 4 rfl) ?_
          refine lv_aload_n hx hb d_C_settle_36 rfl (lv_at hl 0 rfl) ?_
          refine va_get (D := (dC, dI)) (ci := 2) (v := .int (nI cc)) (C := R_C) (T := F_C) (N := 8) hx hb hts in_C hown hK hP 0 rfl rfl 5 (by decide) (hts _ kw_54) (fun _ h9 => h9) rfl d_C_settle_37 ?_
          refine lv_isub hx hb d_C_settle_40 ?_
          refine lv_topi (nm_r (show _ = nI (k - cc) from pk_sub hc2) ?_)
          refine vp_callSl (va_Run.run (va_runV (As := [.int (nI (k - cc))]) (rest := []) ⟨hx, hb, hml, hown, hts⟩ (c_C_valuesOfGate l dC dI cI cL h0 k1 k2 k3 k4 k5 cc gc oc kd lf rg ol u hk (k - cc) (by omega) (hR _ hl1).1 (hR _ hl2).1) (cwV 1 hts (gi_V kw_440 kw_442 ks_C_valuesOfGate kw_3 gi_C_valuesOfGate) rfl rfl rfl ⟨rfl, by decide, by decide, by decide⟩ ⟨Nat.le_of_ble_eq_true rfl, Nat.le_of_ble_eq_true rfl⟩) (wq_preVR hP hK hN [0, 1, 2, 3, 4] rfl (q0 := 0) (ci := 2) rfl rfl rfl) rfl rfl hl.1 rfl (lv_room (Nat.le_of_ble_eq_true rfl)) d_C_settle_41 ⟨Nat.le_of_ble_eq_true rfl, Nat.le_of_ble_eq_true rfl⟩)) (fun r hq => ?_)
          have hq : r = lN (ci_w cc kd lf rg pt u k) := by
            rw [hq]
            unfold ci_w
            rw [if_neg (by omega)]
          subst hq
          refine lv_lstore (lv' := [(5, .long (lN (ci_w cc kd lf rg pt u k))), (0, .ref h0), (1, .int (nI pt)), (2, .int (nI 0)), (3, .int (nI (cc + gc))), (4, .int (nI k))]) hx hb d_C_settle_44 hl (by decide) rfl (fun ls hl => ?_)
          refine lv_aload_n hx hb d_C_settle_46 rfl (lv_at hl 1 rfl) ?_
          refine va_get (D := (dC, dI)) (ci := 2) (v := .ref k5) (C := R_C) (T := F_C) (N := 8) hx hb hts in_C hown hK hP 0 rfl rfl 4 (by decide) (hts _ kw_53) (fun _ h9 => h9) rfl d_C_settle_47 ?_
          refine lv_iload hx hb d_C_settle_50 (lv_at hl 5 rfl) ?_
          refine lv_iload_n hx hb d_C_settle_52 rfl (lv_at hl 3 rfl) ?_
          refine lv_if_eq (tgt := 66) hx hb d_C_settle_53 (by decide) (fun _ => ?_) (fun hc => absurd hc (show ¬ ¬ nI 0 = 0 from fun z => z rfl))
          refine lv_lload hx hb d_C_settle_66 (lv_at hl 0 rfl) ?_
          refine va_last (D := (dC, dI)) (i := (nI k)) (x := (lN (ci_w cc kd lf rg pt u k))) hx hb hK hP hD hS 4 1 rfl rfl (vp_in_nI (by omega) (by decide)) d_C_settle_68 (fun H locs hP hD hS => ?_)
          rw [nI_clamp (by omega), updL_lN] at hP hD
          have hP : va_P (dC, dI) classes [(h0, .inr (2, [.ref k1, .ref k2, .ref k3, .ref k4, .ref k5, .int (nI cc), .int (nI gc), .int (nI oc)])), (k1, .inl (cI, 24, .inl (fun c => nI (kd c)))), (k2, .inl (cI, 24, .inl (fun c => nI (lf c)))), (k3, .inl (cI, 24, .inl (fun c => nI (rg c)))), (k5, .inl (cL, 32, .inr (.inl (fun c => lN ((va_up u k (ci_w cc kd lf rg pt u k)) c)))))] H := hP
          have hD : va_D A [(h0, .inr (2, [.ref k1, .ref k2, .ref k3, .ref k4, .ref k5, .int (nI cc), .int (nI gc), .int (nI oc)])), (k1, .inl (cI, 24, .inl (fun c => nI (kd c)))), (k2, .inl (cI, 24, .inl (fun c => nI (lf c)))), (k3, .inl (cI, 24, .inl (fun c => nI (rg c)))), (k5, .inl (cL, 32, .inr (.inl (fun c => lN ((va_up u k (ci_w cc kd lf rg pt u k)) c)))))] := hD
          refine lv_iinc (v := nI (k + 1)) (lv' := [(4, .int (nI (k + 1))), (5, .long (lN (ci_w cc kd lf rg pt u k))), (0, .ref h0), (1, .int (nI pt)), (2, .int (nI 0)), (3, .int (nI (cc + gc)))]) hx hb d_C_settle_69 hl (k := 5) rfl (nI_1 k) (by decide) rfl (fun ls hl => ?_)
          refine lv_goto (tgt := 8) hx hb d_C_settle_72 (by decide) ?_
          have hl := lv_sub (l' := [(0, .ref h0), (1, .int (nI pt)), (2, .int (nI 0)), (3, .int (nI (cc + gc))), (4, .int (nI (k + 1)))]) hl [2, 3, 4, 5, 0] rfl
          exact ih (k + 1) (va_up u k (ci_w cc kd lf rg pt u k)) (by omega) (ci_turnN hR hgl (fun j hj => va_up_lt hj) (va_up_self _ _ _)) H locs hP hD hS ls hl
        · have hc2 : k < cc := Classical.byContradiction fun z => hc2 ((nI_leI (by omega) (by omega)).mpr (by omega))
          refine lv_iload_n hx hb d_C_settle_23 rfl (lv_at hl 1 rfl) ?_
          refine lv_iload hx hb d_C_settle_24 (lv_at hl 4 rfl) ?_
          refine lv_iushr (v := nI (pt / 2 ^ k)) hx hb d_C_settle_26 (pk_ushrN hpt (nI k) k ((by decide +kernel : ∀ n, n < 32 → (((nI n).toUInt32 &&& Int32.toUInt32 31).toBitVec % 32).toNat = n) k (by omega))) ?_
          refine vp_callSl (va_Run.run (va_runS (As := [.int (nI (pt / 2 ^ k))]) (rest := []) ⟨hx, hb, hml, hown, hts⟩ (c_C_spread l (pt / 2 ^ k) (Nat.lt_of_le_of_lt (Nat.div_le_self _ _) hpt)) (va_cwS 1 hts (gi_S kw_437 kw_438 kw_3 gi_C_spread) rfl rfl rfl ⟨by decide, by decide, by decide⟩ ⟨Nat.le_of_ble_eq_true rfl, Nat.le_of_ble_eq_true rfl⟩) wq_preS0 rfl rfl hl.1 rfl (lv_room (Nat.le_of_ble_eq_true rfl)) d_C_settle_27 ⟨Nat.le_of_ble_eq_true rfl, Nat.le_of_ble_eq_true rfl⟩)) (fun r hq => ?_)
          have hq : r = lN (ci_w cc kd lf rg pt u k) := by
            rw [hq, sh_bit]
            unfold ci_w
            rw [if_pos hc2]
          subst hq
          refine lv_goto (tgt := 44) hx hb d_C_settle_30 (by decide) ?_
          refine lv_lstore (lv' := [(5, .long (lN (ci_w cc kd lf rg pt u k))), (0, .ref h0), (1, .int (nI pt)), (2, .int (nI 0)), (3, .int (nI (cc + gc))), (4, .int (nI k))]) hx hb d_C_settle_44 hl (by decide) rfl (fun ls hl => ?_)
          refine lv_aload_n hx hb d_C_settle_46 rfl (lv_at hl 1 rfl) ?_
          refine va_get (D := (dC, dI)) (ci := 2) (v := .ref k5) (C := R_C) (T := F_C) (N := 8) hx hb hts in_C hown hK hP 0 rfl rfl 4 (by decide) (hts _ kw_53) (fun _ h9 => h9) rfl d_C_settle_47 ?_
          refine lv_iload hx hb d_C_settle_50 (lv_at hl 5 rfl) ?_
          refine lv_iload_n hx hb d_C_settle_52 rfl (lv_at hl 3 rfl) ?_
          refine lv_if_eq (tgt := 66) hx hb d_C_settle_53 (by decide) (fun _ => ?_) (fun hc => absurd hc (show ¬ ¬ nI 0 = 0 from fun z => z rfl))
          refine lv_lload hx hb d_C_settle_66 (lv_at hl 0 rfl) ?_
          refine va_last (D := (dC, dI)) (i := (nI k)) (x := (lN (ci_w cc kd lf rg pt u k))) hx hb hK hP hD hS 4 1 rfl rfl (vp_in_nI (by omega) (by decide)) d_C_settle_68 (fun H locs hP hD hS => ?_)
          rw [nI_clamp (by omega), updL_lN] at hP hD
          have hP : va_P (dC, dI) classes [(h0, .inr (2, [.ref k1, .ref k2, .ref k3, .ref k4, .ref k5, .int (nI cc), .int (nI gc), .int (nI oc)])), (k1, .inl (cI, 24, .inl (fun c => nI (kd c)))), (k2, .inl (cI, 24, .inl (fun c => nI (lf c)))), (k3, .inl (cI, 24, .inl (fun c => nI (rg c)))), (k5, .inl (cL, 32, .inr (.inl (fun c => lN ((va_up u k (ci_w cc kd lf rg pt u k)) c)))))] H := hP
          have hD : va_D A [(h0, .inr (2, [.ref k1, .ref k2, .ref k3, .ref k4, .ref k5, .int (nI cc), .int (nI gc), .int (nI oc)])), (k1, .inl (cI, 24, .inl (fun c => nI (kd c)))), (k2, .inl (cI, 24, .inl (fun c => nI (lf c)))), (k3, .inl (cI, 24, .inl (fun c => nI (rg c)))), (k5, .inl (cL, 32, .inr (.inl (fun c => lN ((va_up u k (ci_w cc kd lf rg pt u k)) c)))))] := hD
          refine lv_iinc (v := nI (k + 1)) (lv' := [(4, .int (nI (k + 1))), (5, .long (lN (ci_w cc kd lf rg pt u k))), (0, .ref h0), (1, .int (nI pt)), (2, .int (nI 0)), (3, .int (nI (cc + gc)))]) hx hb d_C_settle_69 hl (k := 5) rfl (nI_1 k) (by decide) rfl (fun ls hl => ?_)
          refine lv_goto (tgt := 8) hx hb d_C_settle_72 (by decide) ?_
          have hl := lv_sub (l' := [(0, .ref h0), (1, .int (nI pt)), (2, .int (nI 0)), (3, .int (nI (cc + gc))), (4, .int (nI (k + 1)))]) hl [2, 3, 4, 5, 0] rfl
          exact ih (k + 1) (va_up u k (ci_w cc kd lf rg pt u k)) (by omega) (ci_turnN hR hgl (fun j hj => va_up_lt hj) (va_up_self _ _ _)) H locs hP hD hS ls hl
  refine lv_aload_n hx hb d_C_settle_0 rfl (lv_at hl 0 rfl) ?_
  refine vp_callSi (va_Run.run (va_runV (As := []) (rest := []) ⟨hx, hb, hml, hown, hts⟩ (c_C_countLines l dC dI cI cL h0 k1 k2 k3 k4 k5 cc gc oc) (cwV 0 hts (gi_V kw_396 kw_373 ks_C_countLines kw_3 gi_C_countLines) rfl rfl rfl ⟨rfl, by decide, by decide, by decide⟩ ⟨Nat.le_of_ble_eq_true rfl, Nat.le_of_ble_eq_true rfl⟩) (wq_preVR hP hK hN [0] rfl (q0 := 0) (ci := 2) rfl rfl rfl) rfl rfl hl.1 rfl (lv_room (Nat.le_of_ble_eq_true rfl)) d_C_settle_1 ⟨Nat.le_of_ble_eq_true rfl, Nat.le_of_ble_eq_true rfl⟩)) (fun r hq => ?_)
  subst hq
  refine lv_istore_n (lv' := [(3, .int (nI (cc + gc))), (0, .ref h0), (1, .int (nI pt)), (2, .int (nI 0))]) hx hb d_C_settle_4 rfl hl (by decide) rfl (fun ls hl => ?_)
  refine lv_iconst (v := nI 0) hx hb d_C_settle_5 (by decide) ?_
  refine lv_istore (lv' := [(4, .int (nI 0)), (3, .int (nI (cc + gc))), (0, .ref h0), (1, .int (nI pt)), (2, .int (nI 0))]) hx hb d_C_settle_6 hl (by decide) rfl (fun ls hl => ?_)
  have hl := lv_sub (l' := [(0, .ref h0), (1, .int (nI pt)), (2, .int (nI 0)), (3, .int (nI (cc + gc))), (4, .int (nI 0))]) hl [2, 3, 4, 1, 0] rfl
  exact loop (cc + gc) 0 vv rfl (ci_R_0 cc kd lf rg pt _ vv) _ _ hP hD hS ls hl
set_option maxHeartbeats 4000000 in
set_option maxRecDepth 100000 in
theorem c_C_settleF (l : Launch) (dC : Nat → ClassId) (dI : Nat → Nat → Nat) (cI cL : ClassId) (sz : Nat) (h0 k1 k2 k3 k4 k5 : Nat) (cc gc oc : Nat) (kd lf rg ol vv : Nat → Nat) (hk : ck cc gc oc kd lf rg ol) (pt : Nat) (hpt : pt < 2 ^ 32) : Met l y_C_settle w_C_settle ({ frames := 1, cells := 0, slots := 0, locals := 26 } : Room) (va_Pc [.ref h0, .int (nI pt), .int (nI 1)] (wq_W (dC, dI) classes [(h0, .inr (2, [.ref k1, .ref k2, .ref k3, .ref k4, .ref k5, .int (nI cc), .int (nI gc), .int (nI oc)])), (k1, .inl (cI, 24, .inl (fun c => nI (kd c)))), (k2, .inl (cI, 24, .inl (fun c => nI (lf c)))), (k3, .inl (cI, 24, .inl (fun c => nI (rg c)))), (k5, .inl (cL, 32, .inr (.inl (fun c => lN (vv c)))))] [(cI, .int), (cL, .long)] sz)) (va_Qv (fun (u : Nat → Nat) => ci_R cc kd lf rg pt some (cc + gc) u) (fun (u : Nat → Nat) t => wq_B (dC, dI) classes [(cI, .int), (cL, .long)] (va_A [(h0, .inr (2, [.ref k1, .ref k2, .ref k3, .ref k4, .ref k5, .int (nI cc), .int (nI gc), .int (nI oc)])), (k1, .inl (cI, 24, .inl (fun c => nI (kd c)))), (k2, .inl (cI, 24, .inl (fun c => nI (lf c)))), (k3, .inl (cI, 24, .inl (fun c => nI (rg c)))), (k5, .inl (cL, 32, .inr (.inl (fun c => lN (vv c)))))] sz) [(h0, .inr (2, [.ref k1, .ref k2, .ref k3, .ref k4, .ref k5, .int (nI cc), .int (nI gc), .int (nI oc)])), (k1, .inl (cI, 24, .inl (fun c => nI (kd c)))), (k2, .inl (cI, 24, .inl (fun c => nI (lf c)))), (k3, .inl (cI, 24, .inl (fun c => nI (rg c)))), (k5, .inl (cL, 32, .inr (.inl (fun c => lN (u c)))))] t) (va_A [(h0, .inr (2, [.ref k1, .ref k2, .ref k3, .ref k4, .ref k5, .int (nI cc), .int (nI gc), .int (nI oc)])), (k1, .inl (cI, 24, .inl (fun c => nI (kd c)))), (k2, .inl (cI, 24, .inl (fun c => nI (lf c)))), (k3, .inl (cI, 24, .inl (fun c => nI (rg c)))), (k5, .inl (cL, 32, .inr (.inl (fun c => lN (vv c)))))] sz)) 0 0 (va_A [(h0, .inr (2, [.ref k1, .ref k2, .ref k3, .ref k4, .ref k5, .int (nI cc), .int (nI gc), .int (nI oc)])), (k1, .inl (cI, 24, .inl (fun c => nI (kd c)))), (k2, .inl (cI, 24, .inl (fun c => nI (lf c)))), (k3, .inl (cI, 24, .inl (fun c => nI (rg c)))), (k5, .inl (cL, 32, .inr (.inl (fun c => lN (vv c)))))] sz) := by
  refine Met.ofW (cc := b_C_settle) (maxL := 7) (ret := (Option.none : Option Jvm.ClassFile.FieldType)) (by decide) rfl ?_
  intro pg en st mm ar bw me co s₁ B hml hv
  obtain ⟨rfl, hsz, hP, hK, hD0, hN⟩ := hv
  have hx := B.exec
  have hb := B.bytes
  have hr := B.returns
  have hlocks := B.notSynchronized
  have hts0 := atoms_spec (ws := w_C_settle) B.pre
  have hts : ∀ w ∈ gw, w.before _ st = true := fun w h => hts0 w (List.mem_cons_of_mem _ h)
  have hown : st.vm.findClass R_C = some mm.cls := findClass_of_methodNamed B.named
  subst hsz
  have hD := hD0.self (sz := st.heap.size)
  generalize hAe : va_A [(h0, .inr (2, [.ref k1, .ref k2, .ref k3, .ref k4, .ref k5, .int (nI cc), .int (nI gc), .int (nI oc)])), (k1, .inl (cI, 24, .inl (fun c => nI (kd c)))), (k2, .inl (cI, 24, .inl (fun c => nI (lf c)))), (k3, .inl (cI, 24, .inl (fun c => nI (rg c)))), (k5, .inl (cL, 32, .inr (.inl (fun c => lN (vv c)))))] st.heap.size = A at hD ⊢
  have hA : ∀ q : Nat, st.heap.size ≤ q → A q := fun q h => by rw [← hAe]; exact Or.inr h
  have hS : va_S A st.heap st.heap [] := va_S.rf
  have hl := lv_entry ([.ref h0, .int (nI pt), .int (nI 1)]) (n := 7) (Nat.le_of_ble_eq_true rfl)
  rw [lg_entry_eq]
  generalize (lg_sl ([.ref h0, .int (nI pt), .int (nI 1)]) ++ List.replicate (7 - (lg_sl ([.ref h0, .int (nI pt), .int (nI 1)])).length) Slot.unset).toArray = ls at hl ⊢
  have hl : lv_has ls 7 [(0, .ref h0), (1, .int (nI pt)), (2, .int (nI 1))] := hl
  have h1 := hk.1
  have h2 := hk.2.1
  have loop : ∀ (j k : Nat) (u : Nat → Nat), j + k = cc + gc → ci_R cc kd lf rg pt some k u → ∀ (H : Heap) (locs : List Loc), va_P (dC, dI) classes [(h0, .inr (2, [.ref k1, .ref k2, .ref k3, .ref k4, .ref k5, .int (nI cc), .int (nI gc), .int (nI oc)])), (k1, .inl (cI, 24, .inl (fun c => nI (kd c)))), (k2, .inl (cI, 24, .inl (fun c => nI (lf c)))), (k3, .inl (cI, 24, .inl (fun c => nI (rg c)))), (k5, .inl (cL, 32, .inr (.inl (fun c => lN (u c)))))] H → va_D A [(h0, .inr (2, [.ref k1, .ref k2, .ref k3, .ref k4, .ref k5, .int (nI cc), .int (nI gc), .int (nI oc)])), (k1, .inl (cI, 24, .inl (fun c => nI (kd c)))), (k2, .inl (cI, 24, .inl (fun c => nI (lf c)))), (k3, .inl (cI, 24, .inl (fun c => nI (rg c)))), (k5, .inl (cL, 32, .inr (.inl (fun c => lN (u c)))))] → va_S A st.heap H locs → ∀ (ls : Array Slot), lv_has ls 7 [(0, .ref h0), (1, .int (nI pt)), (2, .int (nI 1)), (3, .int (nI (cc + gc))), (4, .int (nI k))] → W pg l en (headSpec w_C_settle ({ frames := 1, cells := 0, slots := 0, locals := 26 } : Room)).room st mm ([.ref h0, .int (nI pt), .int (nI 1)] : List Value).toArray bw me co H locs 0 0 (MQ bw (va_Qv (fun (u : Nat → Nat) => ci_R cc kd lf rg pt some (cc + gc) u) (fun (u : Nat → Nat) t => wq_B (dC, dI) classes [(cI, .int), (cL, .long)] A [(h0, .inr (2, [.ref k1, .ref k2, .ref k3, .ref k4, .ref k5, .int (nI cc), .int (nI gc), .int (nI oc)])), (k1, .inl (cI, 24, .inl (fun c => nI (kd c)))), (k2, .inl (cI, 24, .inl (fun c => nI (lf c)))), (k3, .inl (cI, 24, .inl (fun c => nI (rg c)))), (k5, .inl (cL, 32, .inr (.inl (fun c => lN (u c)))))] t) A) ([.ref h0, .int (nI pt), .int (nI 1)] : List Value).toArray st 0 0 A) (F0 mm 8 ls []) := by
    intro j
    induction j with
    | zero =>
      intro k u hj hR H locs hP hD hS ls hl
      refine lv_iload hx hb d_C_settle_8 (lv_at hl 4 rfl) ?_
      refine lv_iload_n hx hb d_C_settle_10 rfl (lv_at hl 3 rfl) ?_
      refine lv_icmp_ge (tgt := 75) hx hb d_C_settle_11 (by decide) (fun hc => ?_) (fun hc => ?_)
      · have hkk : k = cc + gc := by omega
        rw [hkk] at hR
        have hP := hP.sub (ws' := [(h0, .inr (2, [.ref k1, .ref k2, .ref k3, .ref k4, .ref k5, .int (nI cc), .int (nI gc), .int (nI oc)])), (k1, .inl (cI, 24, .inl (fun c => nI (kd c)))), (k2, .inl (cI, 24, .inl (fun c => nI (lf c)))), (k3, .inl (cI, 24, .inl (fun c => nI (rg c)))), (k5, .inl (cL, 32, .inr (.inl (fun c => lN (u c)))))]) [0, 1, 2, 3, 4] rfl
        have hD := hD.sub (ws' := [(h0, .inr (2, [.ref k1, .ref k2, .ref k3, .ref k4, .ref k5, .int (nI cc), .int (nI gc), .int (nI oc)])), (k1, .inl (cI, 24, .inl (fun c => nI (kd c)))), (k2, .inl (cI, 24, .inl (fun c => nI (lf c)))), (k3, .inl (cI, 24, .inl (fun c => nI (rg c)))), (k5, .inl (cL, 32, .inr (.inl (fun c => lN (u c)))))]) [0, 1, 2, 3, 4] (by decide) rfl
        exact W.vret hx hb hr (fun t ht hW => ⟨⟨u, rfl, hR, by rw [ht]; exact hP, va_K.moved hW.alike hK, hD⟩, hS.F ht⟩) hS.2.2 d_C_settle_75
      · exact absurd ((nI_leI (by omega) (by omega)).mpr (by omega)) hc
    | succ j ih =>
      intro k u hj hR H locs hP hD hS ls hl
      have hkl : k < cc + gc := by omega
      have hgl := ck_line hk hkl
      have hwl := ci_w_lt hR hgl
      refine lv_iload hx hb d_C_settle_8 (lv_at hl 4 rfl) ?_
      refine lv_iload_n hx hb d_C_settle_10 rfl (lv_at hl 3 rfl) ?_
      refine lv_icmp_ge (tgt := 75) hx hb d_C_settle_11 (by decide) (fun hc => ?_) (fun hc => ?_)
      · exact absurd ((nI_leI (by omega) (by omega)).mp hc) (by omega)
      · refine lv_iload hx hb d_C_settle_14 (lv_at hl 4 rfl) ?_
        refine lv_aload_n hx hb d_C_settle_16 rfl (lv_at hl 0 rfl) ?_
        refine va_get (D := (dC, dI)) (ci := 2) (v := .int (nI cc)) (C := R_C) (T := F_C) (N := 8) hx hb hts in_C hown hK hP 0 rfl rfl 5 (by decide) (hts _ kw_54) (fun _ h9 => h9) rfl d_C_settle_17 ?_
        refine lv_icmp_ge (tgt := 33) hx hb d_C_settle_20 (by decide) (fun hc2 => ?_) (fun hc2 => ?_)
        · have hc2 : cc ≤ k := (nI_leI (by omega) (by omega)).mp hc2
          obtain ⟨hl1, hl2⟩ := hgl hc2
          refine lv_aload_n hx hb d_C_settle_33 rfl (lv_at hl 0 rfl) ?_
          refine lv_iload hx hb d_C_settle_34 (lv_at hl 4 rfl) ?_
          refine lv_aload_n hx hb d_C_settle_36 rfl (lv_at hl 0 rfl) ?_
          refine va_get (D := (dC, dI)) (ci := 2) (v := .int (nI cc)) (C := R_C) (T := F_C) (N := 8) hx hb hts in_C hown hK hP 0 rfl rfl 5 (by decide) (hts _ kw_54) (fun _ h9 => h9) rfl d_C_settle_37 ?_
          refine lv_isub hx hb d_C_settle_40 ?_
          refine lv_topi (nm_r (show _ = nI (k - cc) from pk_sub hc2) ?_)
          refine vp_callSl (va_Run.run (va_runV (As := [.int (nI (k - cc))]) (rest := []) ⟨hx, hb, hml, hown, hts⟩ (c_C_valuesOfGate l dC dI cI cL h0 k1 k2 k3 k4 k5 cc gc oc kd lf rg ol u hk (k - cc) (by omega) (hR _ hl1).1 (hR _ hl2).1) (cwV 1 hts (gi_V kw_440 kw_442 ks_C_valuesOfGate kw_3 gi_C_valuesOfGate) rfl rfl rfl ⟨rfl, by decide, by decide, by decide⟩ ⟨Nat.le_of_ble_eq_true rfl, Nat.le_of_ble_eq_true rfl⟩) (wq_preVR hP hK hN [0, 1, 2, 3, 4] rfl (q0 := 0) (ci := 2) rfl rfl rfl) rfl rfl hl.1 rfl (lv_room (Nat.le_of_ble_eq_true rfl)) d_C_settle_41 ⟨Nat.le_of_ble_eq_true rfl, Nat.le_of_ble_eq_true rfl⟩)) (fun r hq => ?_)
          have hq : r = lN (ci_w cc kd lf rg pt u k) := by
            rw [hq]
            unfold ci_w
            rw [if_neg (by omega)]
          subst hq
          refine lv_lstore (lv' := [(5, .long (lN (ci_w cc kd lf rg pt u k))), (0, .ref h0), (1, .int (nI pt)), (2, .int (nI 1)), (3, .int (nI (cc + gc))), (4, .int (nI k))]) hx hb d_C_settle_44 hl (by decide) rfl (fun ls hl => ?_)
          refine lv_aload_n hx hb d_C_settle_46 rfl (lv_at hl 1 rfl) ?_
          refine va_get (D := (dC, dI)) (ci := 2) (v := .ref k5) (C := R_C) (T := F_C) (N := 8) hx hb hts in_C hown hK hP 0 rfl rfl 4 (by decide) (hts _ kw_53) (fun _ h9 => h9) rfl d_C_settle_47 ?_
          refine lv_iload hx hb d_C_settle_50 (lv_at hl 5 rfl) ?_
          refine lv_iload_n hx hb d_C_settle_52 rfl (lv_at hl 3 rfl) ?_
          refine lv_if_eq (tgt := 66) hx hb d_C_settle_53 (by decide) (fun hc => absurd hc (show ¬ nI 1 = 0 from by decide)) (fun _ => ?_)
          refine lv_lload hx hb d_C_settle_56 (lv_at hl 0 rfl) ?_
          refine lv_iload hx hb d_C_settle_58 (lv_at hl 5 rfl) ?_
          refine vp_callSl (va_Run.run (va_runS (As := [.long (lN (ci_w cc kd lf rg pt u k)), .int (nI k)]) (rest := [.int (nI k), .ref k5]) ⟨hx, hb, hml, hown, hts⟩ (c_C_withStuck l (ci_w cc kd lf rg pt u k) k hwl (by omega)) (va_cwS 2 hts (gi_S kw_445 kw_446 kw_3 gi_C_withStuck) rfl rfl rfl ⟨by decide, by decide, by decide⟩ ⟨Nat.le_of_ble_eq_true rfl, Nat.le_of_ble_eq_true rfl⟩) wq_preS0 rfl rfl hl.1 rfl (lv_room (Nat.le_of_ble_eq_true rfl)) d_C_settle_60 ⟨Nat.le_of_ble_eq_true rfl, Nat.le_of_ble_eq_true rfl⟩)) (fun r hq4 => ?_)
          subst hq4
          refine lv_goto (tgt := 68) hx hb d_C_settle_63 (by decide) ?_
          refine va_last (D := (dC, dI)) (i := (nI k)) (x := (lN (ci_k (ci_w cc kd lf rg pt u k) k))) hx hb hK hP hD hS 4 1 rfl rfl (vp_in_nI (by omega) (by decide)) d_C_settle_68 (fun H locs hP hD hS => ?_)
          rw [nI_clamp (by omega), updL_lN] at hP hD
          have hP : va_P (dC, dI) classes [(h0, .inr (2, [.ref k1, .ref k2, .ref k3, .ref k4, .ref k5, .int (nI cc), .int (nI gc), .int (nI oc)])), (k1, .inl (cI, 24, .inl (fun c => nI (kd c)))), (k2, .inl (cI, 24, .inl (fun c => nI (lf c)))), (k3, .inl (cI, 24, .inl (fun c => nI (rg c)))), (k5, .inl (cL, 32, .inr (.inl (fun c => lN ((va_up u k (ci_k (ci_w cc kd lf rg pt u k) k)) c)))))] H := hP
          have hD : va_D A [(h0, .inr (2, [.ref k1, .ref k2, .ref k3, .ref k4, .ref k5, .int (nI cc), .int (nI gc), .int (nI oc)])), (k1, .inl (cI, 24, .inl (fun c => nI (kd c)))), (k2, .inl (cI, 24, .inl (fun c => nI (lf c)))), (k3, .inl (cI, 24, .inl (fun c => nI (rg c)))), (k5, .inl (cL, 32, .inr (.inl (fun c => lN ((va_up u k (ci_k (ci_w cc kd lf rg pt u k) k)) c)))))] := hD
          refine lv_iinc (v := nI (k + 1)) (lv' := [(4, .int (nI (k + 1))), (5, .long (lN (ci_w cc kd lf rg pt u k))), (0, .ref h0), (1, .int (nI pt)), (2, .int (nI 1)), (3, .int (nI (cc + gc)))]) hx hb d_C_settle_69 hl (k := 5) rfl (nI_1 k) (by decide) rfl (fun ls hl => ?_)
          refine lv_goto (tgt := 8) hx hb d_C_settle_72 (by decide) ?_
          have hl := lv_sub (l' := [(0, .ref h0), (1, .int (nI pt)), (2, .int (nI 1)), (3, .int (nI (cc + gc))), (4, .int (nI (k + 1)))]) hl [2, 3, 4, 5, 0] rfl
          exact ih (k + 1) (va_up u k (ci_k (ci_w cc kd lf rg pt u k) k)) (by omega) (ci_turnF hR hgl (fun j hj => va_up_lt hj) (by omega) (va_up_self _ _ _)) H locs hP hD hS ls hl
        · have hc2 : k < cc := Classical.byContradiction fun z => hc2 ((nI_leI (by omega) (by omega)).mpr (by omega))
          refine lv_iload_n hx hb d_C_settle_23 rfl (lv_at hl 1 rfl) ?_
          refine lv_iload hx hb d_C_settle_24 (lv_at hl 4 rfl) ?_
          refine lv_iushr (v := nI (pt / 2 ^ k)) hx hb d_C_settle_26 (pk_ushrN hpt (nI k) k ((by decide +kernel : ∀ n, n < 32 → (((nI n).toUInt32 &&& Int32.toUInt32 31).toBitVec % 32).toNat = n) k (by omega))) ?_
          refine vp_callSl (va_Run.run (va_runS (As := [.int (nI (pt / 2 ^ k))]) (rest := []) ⟨hx, hb, hml, hown, hts⟩ (c_C_spread l (pt / 2 ^ k) (Nat.lt_of_le_of_lt (Nat.div_le_self _ _) hpt)) (va_cwS 1 hts (gi_S kw_437 kw_438 kw_3 gi_C_spread) rfl rfl rfl ⟨by decide, by decide, by decide⟩ ⟨Nat.le_of_ble_eq_true rfl, Nat.le_of_ble_eq_true rfl⟩) wq_preS0 rfl rfl hl.1 rfl (lv_room (Nat.le_of_ble_eq_true rfl)) d_C_settle_27 ⟨Nat.le_of_ble_eq_true rfl, Nat.le_of_ble_eq_true rfl⟩)) (fun r hq => ?_)
          have hq : r = lN (ci_w cc kd lf rg pt u k) := by
            rw [hq, sh_bit]
            unfold ci_w
            rw [if_pos hc2]
          subst hq
          refine lv_goto (tgt := 44) hx hb d_C_settle_30 (by decide) ?_
          refine lv_lstore (lv' := [(5, .long (lN (ci_w cc kd lf rg pt u k))), (0, .ref h0), (1, .int (nI pt)), (2, .int (nI 1)), (3, .int (nI (cc + gc))), (4, .int (nI k))]) hx hb d_C_settle_44 hl (by decide) rfl (fun ls hl => ?_)
          refine lv_aload_n hx hb d_C_settle_46 rfl (lv_at hl 1 rfl) ?_
          refine va_get (D := (dC, dI)) (ci := 2) (v := .ref k5) (C := R_C) (T := F_C) (N := 8) hx hb hts in_C hown hK hP 0 rfl rfl 4 (by decide) (hts _ kw_53) (fun _ h9 => h9) rfl d_C_settle_47 ?_
          refine lv_iload hx hb d_C_settle_50 (lv_at hl 5 rfl) ?_
          refine lv_iload_n hx hb d_C_settle_52 rfl (lv_at hl 3 rfl) ?_
          refine lv_if_eq (tgt := 66) hx hb d_C_settle_53 (by decide) (fun hc => absurd hc (show ¬ nI 1 = 0 from by decide)) (fun _ => ?_)
          refine lv_lload hx hb d_C_settle_56 (lv_at hl 0 rfl) ?_
          refine lv_iload hx hb d_C_settle_58 (lv_at hl 5 rfl) ?_
          refine vp_callSl (va_Run.run (va_runS (As := [.long (lN (ci_w cc kd lf rg pt u k)), .int (nI k)]) (rest := [.int (nI k), .ref k5]) ⟨hx, hb, hml, hown, hts⟩ (c_C_withStuck l (ci_w cc kd lf rg pt u k) k hwl (by omega)) (va_cwS 2 hts (gi_S kw_445 kw_446 kw_3 gi_C_withStuck) rfl rfl rfl ⟨by decide, by decide, by decide⟩ ⟨Nat.le_of_ble_eq_true rfl, Nat.le_of_ble_eq_true rfl⟩) wq_preS0 rfl rfl hl.1 rfl (lv_room (Nat.le_of_ble_eq_true rfl)) d_C_settle_60 ⟨Nat.le_of_ble_eq_true rfl, Nat.le_of_ble_eq_true rfl⟩)) (fun r hq4 => ?_)
          subst hq4
          refine lv_goto (tgt := 68) hx hb d_C_settle_63 (by decide) ?_
          refine va_last (D := (dC, dI)) (i := (nI k)) (x := (lN (ci_k (ci_w cc kd lf rg pt u k) k))) hx hb hK hP hD hS 4 1 rfl rfl (vp_in_nI (by omega) (by decide)) d_C_settle_68 (fun H locs hP hD hS => ?_)
          rw [nI_clamp (by omega), updL_lN] at hP hD
          have hP : va_P (dC, dI) classes [(h0, .inr (2, [.ref k1, .ref k2, .ref k3, .ref k4, .ref k5, .int (nI cc), .int (nI gc), .int (nI oc)])), (k1, .inl (cI, 24, .inl (fun c => nI (kd c)))), (k2, .inl (cI, 24, .inl (fun c => nI (lf c)))), (k3, .inl (cI, 24, .inl (fun c => nI (rg c)))), (k5, .inl (cL, 32, .inr (.inl (fun c => lN ((va_up u k (ci_k (ci_w cc kd lf rg pt u k) k)) c)))))] H := hP
          have hD : va_D A [(h0, .inr (2, [.ref k1, .ref k2, .ref k3, .ref k4, .ref k5, .int (nI cc), .int (nI gc), .int (nI oc)])), (k1, .inl (cI, 24, .inl (fun c => nI (kd c)))), (k2, .inl (cI, 24, .inl (fun c => nI (lf c)))), (k3, .inl (cI, 24, .inl (fun c => nI (rg c)))), (k5, .inl (cL, 32, .inr (.inl (fun c => lN ((va_up u k (ci_k (ci_w cc kd lf rg pt u k) k)) c)))))] := hD
          refine lv_iinc (v := nI (k + 1)) (lv' := [(4, .int (nI (k + 1))), (5, .long (lN (ci_w cc kd lf rg pt u k))), (0, .ref h0), (1, .int (nI pt)), (2, .int (nI 1)), (3, .int (nI (cc + gc)))]) hx hb d_C_settle_69 hl (k := 5) rfl (nI_1 k) (by decide) rfl (fun ls hl => ?_)
          refine lv_goto (tgt := 8) hx hb d_C_settle_72 (by decide) ?_
          have hl := lv_sub (l' := [(0, .ref h0), (1, .int (nI pt)), (2, .int (nI 1)), (3, .int (nI (cc + gc))), (4, .int (nI (k + 1)))]) hl [2, 3, 4, 5, 0] rfl
          exact ih (k + 1) (va_up u k (ci_k (ci_w cc kd lf rg pt u k) k)) (by omega) (ci_turnF hR hgl (fun j hj => va_up_lt hj) (by omega) (va_up_self _ _ _)) H locs hP hD hS ls hl
  refine lv_aload_n hx hb d_C_settle_0 rfl (lv_at hl 0 rfl) ?_
  refine vp_callSi (va_Run.run (va_runV (As := []) (rest := []) ⟨hx, hb, hml, hown, hts⟩ (c_C_countLines l dC dI cI cL h0 k1 k2 k3 k4 k5 cc gc oc) (cwV 0 hts (gi_V kw_396 kw_373 ks_C_countLines kw_3 gi_C_countLines) rfl rfl rfl ⟨rfl, by decide, by decide, by decide⟩ ⟨Nat.le_of_ble_eq_true rfl, Nat.le_of_ble_eq_true rfl⟩) (wq_preVR hP hK hN [0] rfl (q0 := 0) (ci := 2) rfl rfl rfl) rfl rfl hl.1 rfl (lv_room (Nat.le_of_ble_eq_true rfl)) d_C_settle_1 ⟨Nat.le_of_ble_eq_true rfl, Nat.le_of_ble_eq_true rfl⟩)) (fun r hq => ?_)
  subst hq
  refine lv_istore_n (lv' := [(3, .int (nI (cc + gc))), (0, .ref h0), (1, .int (nI pt)), (2, .int (nI 1))]) hx hb d_C_settle_4 rfl hl (by decide) rfl (fun ls hl => ?_)
  refine lv_iconst (v := nI 0) hx hb d_C_settle_5 (by decide) ?_
  refine lv_istore (lv' := [(4, .int (nI 0)), (3, .int (nI (cc + gc))), (0, .ref h0), (1, .int (nI pt)), (2, .int (nI 1))]) hx hb d_C_settle_6 hl (by decide) rfl (fun ls hl => ?_)
  have hl := lv_sub (l' := [(0, .ref h0), (1, .int (nI pt)), (2, .int (nI 1)), (3, .int (nI (cc + gc))), (4, .int (nI 0))]) hl [2, 3, 4, 1, 0] rfl
  exact loop (cc + gc) 0 vv rfl (ci_R_0 cc kd lf rg pt _ vv) _ _ hP hD hS ls hl
