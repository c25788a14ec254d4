/-! contracts of the model: residues, products, powers; laid by a program -/
theorem sb1 {v k : Nat} (hv : v < 2 ^ 64) (hk : k < 64) : (lN v >>> ((nI k).toInt64 &&& 63)) &&& lN 1 = lN (v / 2 ^ k % 2) := by
  have h := wb_sbit (n := v) hk
  rw [Nat.mod_eq_of_lt hv] at h
  exact h
theorem cm_ge {x y : Int64} (h : 0 ≤ lg_cmp x y) (h2 : x < y) : False := Int32.not_lt.mpr h ((lg_cmp_lt _ _).mpr h2)
theorem cm_lt {x y : Int64} (h : ¬ 0 ≤ lg_cmp x y) : x < y := (lg_cmp_lt _ _).mp (Int32.not_le.mp h)
theorem lN_lt63 {a b : Nat} (ha : a < 2 ^ 63) (hb : b < 2 ^ 63) : lN a < lN b ↔ a < b := by
  rw [Int64.lt_iff_toInt_lt, lN_ti (by omega), lN_ti (by omega), if_pos ha, if_pos hb]
  omega
set_option maxHeartbeats 4000000 in
set_option maxRecDepth 100000 in
theorem c_O_thrown (l : Launch) (dC : Nat → ClassId) (dI : Nat → Nat → Nat) (cI cL : ClassId) (o0 g1 g2 g3 g4 g5 g6 g7 g8 : Nat) (fl p n vr ir od cc gc oc : Nat) : Met l y_O_thrown w_O_thrown ({ frames := 0, cells := 0, slots := 0, locals := 0 } : Room) (va_Pc [.ref o0] (wq_R (dC, dI) classes [(o0, .inr (4, [.int (nI fl), .long (lN p), .int (nI n), .long (lN vr), .int (nI ir), .long (lN od), .int (nI cc), .ref g1, .int (nI gc), .ref g2, .ref g3, .ref g4, .int (nI oc), .ref g5, .ref g6, .ref g7, .ref g8]))] [(cI, .int), (cL, .long)])) (vp_Si (fun r => r = nI fl)) 0 0 (fun _ => False) := by
  refine Met.ofW (cc := b_O_thrown) (maxL := 1) (ret := (Option.some Jvm.ClassFile.FieldType.int)) (by decide) rfl ?_
  intro pg en st mm ar bw me co s₁ B hml hv
  obtain ⟨rfl, hP, hK, hN⟩ := hv
  have hx := B.exec
  have hb := B.bytes
  have hr := B.returns
  have hlocks := B.notSynchronized
  have hts0 := atoms_spec (ws := w_O_thrown) B.pre
  have hts : ∀ w ∈ gw, w.before _ st = true := fun w h => hts0 w (List.mem_cons_of_mem _ h)
  have hown : st.vm.findClass R_O = some mm.cls := findClass_of_methodNamed B.named
  have hl := lv_entry ([.ref o0]) (n := 1) (Nat.le_of_ble_eq_true rfl)
  rw [lg_entry_eq]
  generalize (lg_sl ([.ref o0]) ++ List.replicate (1 - (lg_sl ([.ref o0])).length) Slot.unset).toArray = ls at hl ⊢
  have hl : lv_has ls 1 [(0, .ref o0)] := hl
  refine lv_aload_n hx hb d_O_thrown_0 rfl (lv_at hl 0 rfl) ?_
  refine va_get (D := (dC, dI)) (ci := 4) (v := .int (nI fl)) (C := R_O) (T := F_O) (N := 17) hx hb hts in_O hown hK hP 0 rfl rfl 0 (by decide) (hts _ kw_528) (fun _ h9 => h9) rfl d_O_thrown_1 ?_
  exact W.iret (v := nI fl) hx hb hr (fun t9 ht hW => ⟨nI fl, rfl, rfl, ht⟩) (fun _ h => nomatch h) d_O_thrown_4
set_option maxHeartbeats 4000000 in
set_option maxRecDepth 100000 in
theorem c_O_refused0 (l : Launch) (dC : Nat → ClassId) (dI : Nat → Nat → Nat) (cI cL : ClassId) (sz : Nat) (o0 g1 g2 g3 g4 g5 g6 g7 g8 : Nat) (fl p n vr ir od cc gc oc : Nat) : Met l y_O_refused w_O_refused ({ frames := 0, cells := 0, slots := 0, locals := 0 } : Room) (va_Pc [.ref o0, .int (nI 0)] (wq_W (dC, dI) classes [(o0, .inr (4, [.int (nI fl), .long (lN p), .int (nI n), .long (lN vr), .int (nI ir), .long (lN od), .int (nI cc), .ref g1, .int (nI gc), .ref g2, .ref g3, .ref g4, .int (nI oc), .ref g5, .ref g6, .ref g7, .ref g8]))] [(cI, .int), (cL, .long)] sz)) (va_Qi (fun (r : Int32) (u : Unit) => r = 0) (fun (u : Unit) t => wq_B (dC, dI) classes [(cI, .int), (cL, .long)] (va_A [(o0, .inr (4, [.int (nI fl), .long (lN p), .int (nI n), .long (lN vr), .int (nI ir), .long (lN od), .int (nI cc), .ref g1, .int (nI gc), .ref g2, .ref g3, .ref g4, .int (nI oc), .ref g5, .ref g6, .ref g7, .ref g8]))] sz) [(o0, .inr (4, [.int (nI 0), .long (lN p), .int (nI n), .long (lN vr), .int (nI ir), .long (lN od), .int (nI cc), .ref g1, .int (nI gc), .ref g2, .ref g3, .ref g4, .int (nI oc), .ref g5, .ref g6, .ref g7, .ref g8]))] t) (va_A [(o0, .inr (4, [.int (nI fl), .long (lN p), .int (nI n), .long (lN vr), .int (nI ir), .long (lN od), .int (nI cc), .ref g1, .int (nI gc), .ref g2, .ref g3, .ref g4, .int (nI oc), .ref g5, .ref g6, .ref g7, .ref g8]))] sz)) 0 0 (va_A [(o0, .inr (4, [.int (nI fl), .long (lN p), .int (nI n), .long (lN vr), .int (nI ir), .long (lN od), .int (nI cc), .ref g1, .int (nI gc), .ref g2, .ref g3, .ref g4, .int (nI oc), .ref g5, .ref g6, .ref g7, .ref g8]))] sz) := by
  refine Met.ofW (cc := b_O_refused) (maxL := 2) (ret := (Option.some Jvm.ClassFile.FieldType.boolean)) (by decide) rfl ?_
  intro pg en st mm ar bw me co s₁ B hml hv
  obtain ⟨rfl, hsz, hP, hK, hD0, hN⟩ := hv
  have hx := B.exec
  have hb := B.bytes
  have hr := B.returns
  have hlocks := B.notSynchronized
  have hts0 := atoms_spec (ws := w_O_refused) B.pre
  have hts : ∀ w ∈ gw, w.before _ st = true := fun w h => hts0 w (List.mem_cons_of_mem _ h)
  have hown : st.vm.findClass R_O = some mm.cls := findClass_of_methodNamed B.named
  subst hsz
  have hD := hD0.self (sz := st.heap.size)
  generalize hAe : va_A [(o0, .inr (4, [.int (nI fl), .long (lN p), .int (nI n), .long (lN vr), .int (nI ir), .long (lN od), .int (nI cc), .ref g1, .int (nI gc), .ref g2, .ref g3, .ref g4, .int (nI oc), .ref g5, .ref g6, .ref g7, .ref g8]))] st.heap.size = A at hD ⊢
  have hA : ∀ q : Nat, st.heap.size ≤ q → A q := fun q h => by rw [← hAe]; exact Or.inr h
  have hS : va_S A st.heap st.heap [] := va_S.rf
  have hl := lv_entry ([.ref o0, .int (nI 0)]) (n := 2) (Nat.le_of_ble_eq_true rfl)
  rw [lg_entry_eq]
  generalize (lg_sl ([.ref o0, .int (nI 0)]) ++ List.replicate (2 - (lg_sl ([.ref o0, .int (nI 0)])).length) Slot.unset).toArray = ls at hl ⊢
  have hl : lv_has ls 2 [(0, .ref o0), (1, .int (nI 0))] := hl
  refine lv_aload_n hx hb d_O_refused_0 rfl (lv_at hl 0 rfl) ?_
  refine lv_iload_n hx hb d_O_refused_1 rfl (lv_at hl 1 rfl) ?_
  refine va_put (D := (dC, dI)) (ci := 4) (v := .int (nI 0)) (ty := .int) (C := R_O) (T := F_O) (N := 17) hx hb hts in_O t_O t_O_ok n_O hown hK hP hD hS 0 rfl rfl 0 (by decide) (hts _ kw_528) (fun _ h9 => h9) rfl (by decide +kernel) rfl rfl (Nat.le_of_ble_eq_true rfl) d_O_refused_2 (fun H locs hP hD hS => ?_)
  have hP : va_P (dC, dI) classes [(o0, .inr (4, [.int (nI 0), .long (lN p), .int (nI n), .long (lN vr), .int (nI ir), .long (lN od), .int (nI cc), .ref g1, .int (nI gc), .ref g2, .ref g3, .ref g4, .int (nI oc), .ref g5, .ref g6, .ref g7, .ref g8]))] H := hP
  have hD : va_D A [(o0, .inr (4, [.int (nI 0), .long (lN p), .int (nI n), .long (lN vr), .int (nI ir), .long (lN od), .int (nI cc), .ref g1, .int (nI gc), .ref g2, .ref g3, .ref g4, .int (nI oc), .ref g5, .ref g6, .ref g7, .ref g8]))] := hD
  refine lv_iload_n hx hb d_O_refused_5 rfl (lv_at hl 1 rfl) ?_
  refine lv_if_le (tgt := 13) hx hb d_O_refused_6 (by decide) (fun _ => ?_) (fun hc => absurd hc (show ¬ ¬ nI 0 ≤ 0 from by decide))
  refine lv_iconst (v := nI 0) hx hb d_O_refused_13 (by decide) ?_
  have hP := hP.sub (ws' := [(o0, .inr (4, [.int (nI 0), .long (lN p), .int (nI n), .long (lN vr), .int (nI ir), .long (lN od), .int (nI cc), .ref g1, .int (nI gc), .ref g2, .ref g3, .ref g4, .int (nI oc), .ref g5, .ref g6, .ref g7, .ref g8]))]) [0] rfl
  have hD := hD.sub (ws' := [(o0, .inr (4, [.int (nI 0), .long (lN p), .int (nI n), .long (lN vr), .int (nI ir), .long (lN od), .int (nI cc), .ref g1, .int (nI gc), .ref g2, .ref g3, .ref g4, .int (nI oc), .ref g5, .ref g6, .ref g7, .ref g8]))]) [0] (by decide) rfl
  exact W.zret (v := nI 0) hx hb hr (rfl) (fun t9 ht hW => ⟨⟨nI 0, (), rfl, rfl, by rw [ht]; exact hP, va_K.moved hW.alike hK, hD⟩, hS.F ht⟩) hS.2.2 d_O_refused_14
set_option maxHeartbeats 4000000 in
set_option maxRecDepth 100000 in
theorem c_O_refusedK (l : Launch) (dC : Nat → ClassId) (dI : Nat → Nat → Nat) (cI cL : ClassId) (sz : Nat) (o0 g1 g2 g3 g4 g5 g6 g7 g8 : Nat) (fl p n vr ir od cc gc oc : Nat) (k : Nat) (hk1 : 1 ≤ k) (hk2 : k ≤ 3) : Met l y_O_refused w_O_refused ({ frames := 0, cells := 0, slots := 0, locals := 0 } : Room) (va_Pc [.ref o0, .int (nI k)] (wq_W (dC, dI) classes [(o0, .inr (4, [.int (nI fl), .long (lN p), .int (nI n), .long (lN vr), .int (nI ir), .long (lN od), .int (nI cc), .ref g1, .int (nI gc), .ref g2, .ref g3, .ref g4, .int (nI oc), .ref g5, .ref g6, .ref g7, .ref g8]))] [(cI, .int), (cL, .long)] sz)) (va_Qi (fun (r : Int32) (u : Unit) => r = 1) (fun (u : Unit) t => wq_B (dC, dI) classes [(cI, .int), (cL, .long)] (va_A [(o0, .inr (4, [.int (nI fl), .long (lN p), .int (nI n), .long (lN vr), .int (nI ir), .long (lN od), .int (nI cc), .ref g1, .int (nI gc), .ref g2, .ref g3, .ref g4, .int (nI oc), .ref g5, .ref g6, .ref g7, .ref g8]))] sz) [(o0, .inr (4, [.int (nI k), .long (lN p), .int (nI n), .long (lN vr), .int (nI ir), .long (lN od), .int (nI cc), .ref g1, .int (nI gc), .ref g2, .ref g3, .ref g4, .int (nI oc), .ref g5, .ref g6, .ref g7, .ref g8]))] t) (va_A [(o0, .inr (4, [.int (nI fl), .long (lN p), .int (nI n), .long (lN vr), .int (nI ir), .long (lN od), .int (nI cc), .ref g1, .int (nI gc), .ref g2, .ref g3, .ref g4, .int (nI oc), .ref g5, .ref g6, .ref g7, .ref g8]))] sz)) 0 0 (va_A [(o0, .inr (4, [.int (nI fl), .long (lN p), .int (nI n), .long (lN vr), .int (nI ir), .long (lN od), .int (nI cc), .ref g1, .int (nI gc), .ref g2, .ref g3, .ref g4, .int (nI oc), .ref g5, .ref g6, .ref g7, .ref g8]))] sz) := by
  refine Met.ofW (cc := b_O_refused) (maxL := 2) (ret := (Option.some Jvm.ClassFile.FieldType.boolean)) (by decide) rfl ?_
  intro pg en st mm ar bw me co s₁ B hml hv
  obtain ⟨rfl, hsz, hP, hK, hD0, hN⟩ := hv
  have hx := B.exec
  have hb := B.bytes
  have hr := B.returns
  have hlocks := B.notSynchronized
  have hts0 := atoms_spec (ws := w_O_refused) B.pre
  have hts : ∀ w ∈ gw, w.before _ st = true := fun w h => hts0 w (List.mem_cons_of_mem _ h)
  have hown : st.vm.findClass R_O = some mm.cls := findClass_of_methodNamed B.named
  subst hsz
  have hD := hD0.self (sz := st.heap.size)
  generalize hAe : va_A [(o0, .inr (4, [.int (nI fl), .long (lN p), .int (nI n), .long (lN vr), .int (nI ir), .long (lN od), .int (nI cc), .ref g1, .int (nI gc), .ref g2, .ref g3, .ref g4, .int (nI oc), .ref g5, .ref g6, .ref g7, .ref g8]))] st.heap.size = A at hD ⊢
  have hA : ∀ q : Nat, st.heap.size ≤ q → A q := fun q h => by rw [← hAe]; exact Or.inr h
  have hS : va_S A st.heap st.heap [] := va_S.rf
  have hl := lv_entry ([.ref o0, .int (nI k)]) (n := 2) (Nat.le_of_ble_eq_true rfl)
  rw [lg_entry_eq]
  generalize (lg_sl ([.ref o0, .int (nI k)]) ++ List.replicate (2 - (lg_sl ([.ref o0, .int (nI k)])).length) Slot.unset).toArray = ls at hl ⊢
  have hl : lv_has ls 2 [(0, .ref o0), (1, .int (nI k))] := hl
  refine lv_aload_n hx hb d_O_refused_0 rfl (lv_at hl 0 rfl) ?_
  refine lv_iload_n hx hb d_O_refused_1 rfl (lv_at hl 1 rfl) ?_
  refine va_put (D := (dC, dI)) (ci := 4) (v := .int (nI k)) (ty := .int) (C := R_O) (T := F_O) (N := 17) hx hb hts in_O t_O t_O_ok n_O hown hK hP hD hS 0 rfl rfl 0 (by decide) (hts _ kw_528) (fun _ h9 => h9) rfl (by decide +kernel) rfl rfl (Nat.le_of_ble_eq_true rfl) d_O_refused_2 (fun H locs hP hD hS => ?_)
  have hP : va_P (dC, dI) classes [(o0, .inr (4, [.int (nI k), .long (lN p), .int (nI n), .long (lN vr), .int (nI ir), .long (lN od), .int (nI cc), .ref g1, .int (nI gc), .ref g2, .ref g3, .ref g4, .int (nI oc), .ref g5, .ref g6, .ref g7, .ref g8]))] H := hP
  have hD : va_D A [(o0, .inr (4, [.int (nI k), .long (lN p), .int (nI n), .long (lN vr), .int (nI ir), .long (lN od), .int (nI cc), .ref g1, .int (nI gc), .ref g2, .ref g3, .ref g4, .int (nI oc), .ref g5, .ref g6, .ref g7, .ref g8]))] := hD
  refine lv_iload_n hx hb d_O_refused_5 rfl (lv_at hl 1 rfl) ?_
  refine lv_if_le (tgt := 13) hx hb d_O_refused_6 (by decide) (fun hc => absurd hc ((by decide +kernel : ∀ k, k ≤ 3 → 1 ≤ k → ¬ nI k ≤ 0) k hk2 hk1)) (fun _ => ?_)
  refine lv_iconst (v := nI 1) hx hb d_O_refused_9 (by decide) ?_
  refine lv_goto (tgt := 14) hx hb d_O_refused_10 (by decide) ?_
  have hP := hP.sub (ws' := [(o0, .inr (4, [.int (nI k), .long (lN p), .int (nI n), .long (lN vr), .int (nI ir), .long (lN od), .int (nI cc), .ref g1, .int (nI gc), .ref g2, .ref g3, .ref g4, .int (nI oc), .ref g5, .ref g6, .ref g7, .ref g8]))]) [0] rfl
  have hD := hD.sub (ws' := [(o0, .inr (4, [.int (nI k), .long (lN p), .int (nI n), .long (lN vr), .int (nI ir), .long (lN od), .int (nI cc), .ref g1, .int (nI gc), .ref g2, .ref g3, .ref g4, .int (nI oc), .ref g5, .ref g6, .ref g7, .ref g8]))]) [0] (by decide) rfl
  exact W.zret (v := nI 1) hx hb hr (rfl) (fun t9 ht hW => ⟨⟨nI 1, (), rfl, rfl, by rw [ht]; exact hP, va_K.moved hW.alike hK, hD⟩, hS.F ht⟩) hS.2.2 d_O_refused_14
set_option maxHeartbeats 4000000 in
set_option maxRecDepth 100000 in
theorem c_O_clearCircuit (l : Launch) (dC : Nat → ClassId) (dI : Nat → Nat → Nat) (cI cL : ClassId) (sz : Nat) (o0 g1 g2 g3 g4 g5 g6 g7 g8 : Nat) (fl p n vr ir od cc gc oc : Nat) : Met l y_O_clearCircuit w_O_clearCircuit ({ frames := 0, cells := 0, slots := 0, locals := 0 } : Room) (va_Pc [.ref o0] (wq_W (dC, dI) classes [(o0, .inr (4, [.int (nI fl), .long (lN p), .int (nI n), .long (lN vr), .int (nI ir), .long (lN od), .int (nI cc), .ref g1, .int (nI gc), .ref g2, .ref g3, .ref g4, .int (nI oc), .ref g5, .ref g6, .ref g7, .ref g8]))] [(cI, .int), (cL, .long)] sz)) (va_Qv (fun (u : Unit) => True) (fun (u : Unit) t => wq_B (dC, dI) classes [(cI, .int), (cL, .long)] (va_A [(o0, .inr (4, [.int (nI fl), .long (lN p), .int (nI n), .long (lN vr), .int (nI ir), .long (lN od), .int (nI cc), .ref g1, .int (nI gc), .ref g2, .ref g3, .ref g4, .int (nI oc), .ref g5, .ref g6, .ref g7, .ref g8]))] sz) [(o0, .inr (4, [.int (nI fl), .long (lN p), .int (nI n), .long (lN vr), .int (nI ir), .long (lN od), .int (nI cc), .ref g1, .int (nI 0), .ref g2, .ref g3, .ref g4, .int (nI 0), .ref g5, .ref g6, .ref g7, .ref g8]))] t) (va_A [(o0, .inr (4, [.int (nI fl), .long (lN p), .int (nI n), .long (lN vr), .int (nI ir), .long (lN od), .int (nI cc), .ref g1, .int (nI gc), .ref g2, .ref g3, .ref g4, .int (nI oc), .ref g5, .ref g6, .ref g7, .ref g8]))] sz)) 0 0 (va_A [(o0, .inr (4, [.int (nI fl), .long (lN p), .int (nI n), .long (lN vr), .int (nI ir), .long (lN od), .int (nI cc), .ref g1, .int (nI gc), .ref g2, .ref g3, .ref g4, .int (nI oc), .ref g5, .ref g6, .ref g7, .ref g8]))] sz) := by
  refine Met.ofW (cc := b_O_clearCircuit) (maxL := 1) (ret := (Option.none : Option Jvm.ClassFile.FieldType)) (by decide) rfl ?_
  intro pg en st mm ar bw me co s₁ B hml hv
  obtain ⟨rfl, hsz, hP, hK, hD0, hN⟩ := hv
  have hx := B.exec
  have hb := B.bytes
  have hr := B.returns
  have hlocks := B.notSynchronized
  have hts0 := atoms_spec (ws := w_O_clearCircuit) B.pre
  have hts : ∀ w ∈ gw, w.before _ st = true := fun w h => hts0 w (List.mem_cons_of_mem _ h)
  have hown : st.vm.findClass R_O = some mm.cls := findClass_of_methodNamed B.named
  subst hsz
  have hD := hD0.self (sz := st.heap.size)
  generalize hAe : va_A [(o0, .inr (4, [.int (nI fl), .long (lN p), .int (nI n), .long (lN vr), .int (nI ir), .long (lN od), .int (nI cc), .ref g1, .int (nI gc), .ref g2, .ref g3, .ref g4, .int (nI oc), .ref g5, .ref g6, .ref g7, .ref g8]))] st.heap.size = A at hD ⊢
  have hA : ∀ q : Nat, st.heap.size ≤ q → A q := fun q h => by rw [← hAe]; exact Or.inr h
  have hS : va_S A st.heap st.heap [] := va_S.rf
  have hl := lv_entry ([.ref o0]) (n := 1) (Nat.le_of_ble_eq_true rfl)
  rw [lg_entry_eq]
  generalize (lg_sl ([.ref o0]) ++ List.replicate (1 - (lg_sl ([.ref o0])).length) Slot.unset).toArray = ls at hl ⊢
  have hl : lv_has ls 1 [(0, .ref o0)] := hl
  refine lv_aload_n hx hb d_O_clearCircuit_0 rfl (lv_at hl 0 rfl) ?_
  refine lv_iconst (v := nI 0) hx hb d_O_clearCircuit_1 (by decide) ?_
  refine va_put (D := (dC, dI)) (ci := 4) (v := .int (nI 0)) (ty := .int) (C := R_O) (T := F_O) (N := 17) hx hb hts in_O t_O t_O_ok n_O hown hK hP hD hS 0 rfl rfl 8 (by decide) (hts _ kw_536) (fun _ h9 => h9) rfl (by decide +kernel) rfl rfl (Nat.le_of_ble_eq_true rfl) d_O_clearCircuit_2 (fun H locs hP hD hS => ?_)
  have hP : va_P (dC, dI) classes [(o0, .inr (4, [.int (nI fl), .long (lN p), .int (nI n), .long (lN vr), .int (nI ir), .long (lN od), .int (nI cc), .ref g1, .int (nI 0), .ref g2, .ref g3, .ref g4, .int (nI oc), .ref g5, .ref g6, .ref g7, .ref g8]))] H := hP
  have hD : va_D A [(o0, .inr (4, [.int (nI fl), .long (lN p), .int (nI n), .long (lN vr), .int (nI ir), .long (lN od), .int (nI cc), .ref g1, .int (nI 0), .ref g2, .ref g3, .ref g4, .int (nI oc), .ref g5, .ref g6, .ref g7, .ref g8]))] := hD
  refine lv_aload_n hx hb d_O_clearCircuit_5 rfl (lv_at hl 0 rfl) ?_
  refine lv_iconst (v := nI 0) hx hb d_O_clearCircuit_6 (by decide) ?_
  refine va_put (D := (dC, dI)) (ci := 4) (v := .int (nI 0)) (ty := .int) (C := R_O) (T := F_O) (N := 17) hx hb hts in_O t_O t_O_ok n_O hown hK hP hD hS 0 rfl rfl 12 (by decide) (hts _ kw_540) (fun _ h9 => h9) rfl (by decide +kernel) rfl rfl (Nat.le_of_ble_eq_true rfl) d_O_clearCircuit_7 (fun H locs hP hD hS => ?_)
  have hP : va_P (dC, dI) classes [(o0, .inr (4, [.int (nI fl), .long (lN p), .int (nI n), .long (lN vr), .int (nI ir), .long (lN od), .int (nI cc), .ref g1, .int (nI 0), .ref g2, .ref g3, .ref g4, .int (nI 0), .ref g5, .ref g6, .ref g7, .ref g8]))] H := hP
  have hD : va_D A [(o0, .inr (4, [.int (nI fl), .long (lN p), .int (nI n), .long (lN vr), .int (nI ir), .long (lN od), .int (nI cc), .ref g1, .int (nI 0), .ref g2, .ref g3, .ref g4, .int (nI 0), .ref g5, .ref g6, .ref g7, .ref g8]))] := hD
  have hP := hP.sub (ws' := [(o0, .inr (4, [.int (nI fl), .long (lN p), .int (nI n), .long (lN vr), .int (nI ir), .long (lN od), .int (nI cc), .ref g1, .int (nI 0), .ref g2, .ref g3, .ref g4, .int (nI 0), .ref g5, .ref g6, .ref g7, .ref g8]))]) [0] rfl
  have hD := hD.sub (ws' := [(o0, .inr (4, [.int (nI fl), .long (lN p), .int (nI n), .long (lN vr), .int (nI ir), .long (lN od), .int (nI cc), .ref g1, .int (nI 0), .ref g2, .ref g3, .ref g4, .int (nI 0), .ref g5, .ref g6, .ref g7, .ref g8]))]) [0] (by decide) rfl
  exact W.vret hx hb hr (fun t9 ht hW => ⟨⟨(), rfl, trivial, by rw [ht]; exact hP, va_K.moved hW.alike hK, hD⟩, hS.F ht⟩) hS.2.2 d_O_clearCircuit_10
set_option maxHeartbeats 4000000 in
set_option maxRecDepth 100000 in
theorem c_O_isResidue (l : Launch) (dC : Nat → ClassId) (dI : Nat → Nat → Nat) (cI cL : ClassId) (o0 g1 g2 g3 g4 g5 g6 g7 g8 : Nat) (fl p n vr ir od cc gc oc : Nat) (hm : md p n) (a : Nat) (ha : a < 2 ^ 64) : Met l y_O_isResidue w_O_isResidue ({ frames := 0, cells := 0, slots := 0, locals := 0 } : Room) (va_Pc [.ref o0, .long (lN a)] (wq_R (dC, dI) classes [(o0, .inr (4, [.int (nI fl), .long (lN p), .int (nI n), .long (lN vr), .int (nI ir), .long (lN od), .int (nI cc), .ref g1, .int (nI gc), .ref g2, .ref g3, .ref g4, .int (nI oc), .ref g5, .ref g6, .ref g7, .ref g8]))] [(cI, .int), (cL, .long)])) (vp_Si (fun r => r = if a < 2 ^ n then 1 else 0)) 0 0 (fun _ => False) := by
  refine Met.ofW (cc := b_O_isResidue) (maxL := 3) (ret := (Option.some Jvm.ClassFile.FieldType.boolean)) (by decide) rfl ?_
  intro pg en st mm ar bw me co s₁ B hml hv
  obtain ⟨rfl, hP, hK, hN⟩ := hv
  have hx := B.exec
  have hb := B.bytes
  have hr := B.returns
  have hlocks := B.notSynchronized
  have hts0 := atoms_spec (ws := w_O_isResidue) B.pre
  have hts : ∀ w ∈ gw, w.before _ st = true := fun w h => hts0 w (List.mem_cons_of_mem _ h)
  have hown : st.vm.findClass R_O = some mm.cls := findClass_of_methodNamed B.named
  have hl := lv_entry ([.ref o0, .long (lN a)]) (n := 3) (Nat.le_of_ble_eq_true rfl)
  rw [lg_entry_eq]
  generalize (lg_sl ([.ref o0, .long (lN a)]) ++ List.replicate (3 - (lg_sl ([.ref o0, .long (lN a)])).length) Slot.unset).toArray = ls at hl ⊢
  have hl : lv_has ls 3 [(0, .ref o0), (1, .long (lN a))] := hl
  have hn := hm.2.1
  have hp32 := md_n hm
  refine lv_lload_n hx hb d_O_isResidue_0 rfl (lv_at hl 1 rfl) ?_
  refine lv_lconst (v := lN 0) hx hb d_O_isResidue_1 (by decide) ?_
  refine W.lcmp hx hb d_O_isResidue_2 ?_
  refine lv_if_lt (tgt := 21) hx hb d_O_isResidue_3 (by decide) (fun h1 => ?_) (fun h1 => ?_)
  · have h1 : 2 ^ 63 ≤ a := (lN_neg ha).mp ((lg_cmp_lt _ _).mp h1)
    refine lv_iconst (v := nI 0) hx hb d_O_isResidue_21 (by decide) ?_
    exact W.zret (v := nI 0) hx hb hr (rfl) (fun t9 ht hW => ⟨nI 0, rfl, (by rw [if_neg (by omega)]; rfl), ht⟩) (fun _ h => nomatch h) d_O_isResidue_22
  · have h1 : a < 2 ^ 63 := Classical.byContradiction fun z => h1 ((lg_cmp_lt _ _).mpr ((lN_neg ha).mpr (by omega)))
    refine lv_lload_n hx hb d_O_isResidue_6 rfl (lv_at hl 1 rfl) ?_
    refine lv_lconst (v := lN 1) hx hb d_O_isResidue_7 (by decide) ?_
    refine lv_aload_n hx hb d_O_isResidue_8 rfl (lv_at hl 0 rfl) ?_
    refine va_get (D := (dC, dI)) (ci := 4) (v := .int (nI n)) (C := R_O) (T := F_O) (N := 17) hx hb hts in_O hown hK hP 0 rfl rfl 2 (by decide) (hts _ kw_530) (fun _ h9 => h9) rfl d_O_isResidue_9 ?_
    refine lv_lshl (v := lN (1 * 2 ^ n)) hx hb d_O_isResidue_12 (wb_shl 1 (by omega)) ?_
    refine lv_topl (nm_r (show _ = lN (2 ^ n) from by rw [Nat.one_mul]) ?_)
    refine W.lcmp hx hb d_O_isResidue_13 ?_
    refine lv_if_ge (tgt := 21) hx hb d_O_isResidue_14 (by decide) (fun h2 => ?_) (fun h2 => ?_)
    · have h2 : ¬ a < 2 ^ n := fun z => cm_ge h2 ((lN_lt63 h1 (by omega)).mpr z)
      refine lv_iconst (v := nI 0) hx hb d_O_isResidue_21 (by decide) ?_
      exact W.zret (v := nI 0) hx hb hr (rfl) (fun t9 ht hW => ⟨nI 0, rfl, (by rw [if_neg h2]; rfl), ht⟩) (fun _ h => nomatch h) d_O_isResidue_22
    · have h2 : a < 2 ^ n := (lN_lt63 h1 (by omega)).mp (cm_lt h2)
      refine lv_iconst (v := nI 1) hx hb d_O_isResidue_17 (by decide) ?_
      refine lv_goto (tgt := 22) hx hb d_O_isResidue_18 (by decide) ?_
      exact W.zret (v := nI 1) hx hb hr (rfl) (fun t9 ht hW => ⟨nI 1, rfl, (by rw [if_pos h2]; rfl), ht⟩) (fun _ h => nomatch h) d_O_isResidue_22
set_option maxHeartbeats 4000000 in
set_option maxRecDepth 100000 in
theorem c_O_step (l : Launch) (dC : Nat → ClassId) (dI : Nat → Nat → Nat) (cI cL : ClassId) (o0 g1 g2 g3 g4 g5 g6 g7 g8 : Nat) (fl p n vr ir od cc gc oc : Nat) (hm : md p n) (a : Nat) (ha : a < 2 ^ n) : Met l y_O_step w_O_step ({ frames := 0, cells := 0, slots := 0, locals := 0 } : Room) (va_Pc [.ref o0, .long (lN a)] (wq_R (dC, dI) classes [(o0, .inr (4, [.int (nI fl), .long (lN p), .int (nI n), .long (lN vr), .int (nI ir), .long (lN od), .int (nI cc), .ref g1, .int (nI gc), .ref g2, .ref g3, .ref g4, .int (nI oc), .ref g5, .ref g6, .ref g7, .ref g8]))] [(cI, .int), (cL, .long)])) (vp_Sl (fun r => r = lN (px_r p (2 * a)))) 0 0 (fun _ => False) := by
  refine Met.ofW (cc := b_O_step) (maxL := 5) (ret := (Option.some Jvm.ClassFile.FieldType.long)) (by decide) rfl ?_
  intro pg en st mm ar bw me co s₁ B hml hv
  obtain ⟨rfl, hP, hK, hN⟩ := hv
  have hx := B.exec
  have hb := B.bytes
  have hr := B.returns
  have hlocks := B.notSynchronized
  have hts0 := atoms_spec (ws := w_O_step) B.pre
  have hts : ∀ w ∈ gw, w.before _ st = true := fun w h => hts0 w (List.mem_cons_of_mem _ h)
  have hown : st.vm.findClass R_O = some mm.cls := findClass_of_methodNamed B.named
  have hl := lv_entry ([.ref o0, .long (lN a)]) (n := 5) (Nat.le_of_ble_eq_true rfl)
  rw [lg_entry_eq]
  generalize (lg_sl ([.ref o0, .long (lN a)]) ++ List.replicate (5 - (lg_sl ([.ref o0, .long (lN a)])).length) Slot.unset).toArray = ls at hl ⊢
  have hl : lv_has ls 5 [(0, .ref o0), (1, .long (lN a))] := hl
  have hn := hm.2.1
  have ha2 := res_lt hm ha
  have he := st_eq hm ha
  refine lv_ldc2 (v := lN 2) hx hb hown (hts _ kw_612) d_O_step_0 ?_
  refine lv_lload_n hx hb d_O_step_3 rfl (lv_at hl 1 rfl) ?_
  refine lv_lmul hx hb d_O_step_4 ?_
  refine lv_topl (nm_r (show _ = lN (2 * a) from lN_mul 2 a) ?_)
  refine lv_lstore_n (lv' := [(3, .long (lN (2 * a))), (0, .ref o0), (1, .long (lN a))]) hx hb d_O_step_5 rfl hl (by decide) rfl (fun ls hl => ?_)
  refine lv_lload_n hx hb d_O_step_6 rfl (lv_at hl 0 rfl) ?_
  refine lv_aload_n hx hb d_O_step_7 rfl (lv_at hl 1 rfl) ?_
  refine va_get (D := (dC, dI)) (ci := 4) (v := .int (nI n)) (C := R_O) (T := F_O) (N := 17) hx hb hts in_O hown hK hP 0 rfl rfl 2 (by decide) (hts _ kw_530) (fun _ h9 => h9) rfl d_O_step_8 ?_
  refine lv_lshr (v := lN (2 * a) >>> ((nI n).toInt64 &&& 63)) hx hb d_O_step_11 (rfl) ?_
  refine lv_lconst (v := lN 1) hx hb d_O_step_12 (by decide) ?_
  refine lv_land hx hb d_O_step_13 ?_
  refine lv_topl (nm_r (show _ = lN ((2 * a) / 2 ^ n % 2) from sb1 (by omega) (by omega)) ?_)
  refine lv_lconst (v := lN 1) hx hb d_O_step_14 (by decide) ?_
  refine W.lcmp hx hb d_O_step_15 ?_
  refine lv_if_ne (tgt := 28) hx hb d_O_step_16 (by decide) (fun hc => ?_) (fun hc => ?_)
  · have hc : ¬ 2 * a / 2 ^ n % 2 = 1 := fun z => cmq_ne hc (by rw [z])
    rw [if_neg hc] at he
    refine lv_lload_n hx hb d_O_step_28 rfl (lv_at hl 0 rfl) ?_
    refine lv_topl (nm_r (show _ = lN (px_r p (2 * a)) from congrArg lN he) ?_)
    exact W.lret (v := lN (px_r p (2 * a))) hx hb hr (fun t9 ht hW => ⟨lN (px_r p (2 * a)), rfl, rfl, ht⟩) (fun _ h => nomatch h) d_O_step_29
  · have hc : 2 * a / 2 ^ n % 2 = 1 := lN_b1.mp (cmq_eq hc)
    rw [if_pos hc] at he
    refine lv_lload_n hx hb d_O_step_19 rfl (lv_at hl 0 rfl) ?_
    refine lv_aload_n hx hb d_O_step_20 rfl (lv_at hl 1 rfl) ?_
    refine va_get (D := (dC, dI)) (ci := 4) (v := .long (lN p)) (C := R_O) (T := F_O) (N := 17) hx hb hts in_O hown hK hP 0 rfl rfl 1 (by decide) (hts _ kw_529) (fun _ h9 => h9) rfl d_O_step_21 ?_
    refine lv_lxor hx hb d_O_step_24 ?_
    refine lv_topl (nm_r (show _ = lN (px_r p (2 * a)) from (lN_xor _ _).trans (congrArg lN he)) ?_)
    refine lv_goto (tgt := 29) hx hb d_O_step_25 (by decide) ?_
    exact W.lret (v := lN (px_r p (2 * a))) hx hb hr (fun t9 ht hW => ⟨lN (px_r p (2 * a)), rfl, rfl, ht⟩) (fun _ h => nomatch h) d_O_step_29
set_option maxHeartbeats 4000000 in
set_option maxRecDepth 100000 in
theorem c_O_product (l : Launch) (dC : Nat → ClassId) (dI : Nat → Nat → Nat) (cI cL : ClassId) (o0 g1 g2 g3 g4 g5 g6 g7 g8 : Nat) (fl p n vr ir od cc gc oc : Nat) (hm : md p n) (a b : Nat) (ha : a < 2 ^ n) (hb2 : b < 2 ^ n) : Met l y_O_product w_O_product ({ frames := 1, cells := 0, slots := 0, locals := 24 } : Room) (va_Pc [.ref o0, .long (lN a), .long (lN b)] (wq_R (dC, dI) classes [(o0, .inr (4, [.int (nI fl), .long (lN p), .int (nI n), .long (lN vr), .int (nI ir), .long (lN od), .int (nI cc), .ref g1, .int (nI gc), .ref g2, .ref g3, .ref g4, .int (nI oc), .ref g5, .ref g6, .ref g7, .ref g8]))] [(cI, .int), (cL, .long)])) (vp_Sl (fun r => r = lN (px_r p (px_m a b)))) 0 0 (fun _ => False) := by
  refine Met.ofW (cc := b_O_product) (maxL := 8) (ret := (Option.some Jvm.ClassFile.FieldType.long)) (by decide) rfl ?_
  intro pg en st mm ar bw me co s₁ B hml hv
  obtain ⟨rfl, hP, hK, hN⟩ := hv
  have hx := B.exec
  have hb := B.bytes
  have hr := B.returns
  have hlocks := B.notSynchronized
  have hts0 := atoms_spec (ws := w_O_product) B.pre
  have hts : ∀ w ∈ gw, w.before _ st = true := fun w h => hts0 w (List.mem_cons_of_mem _ h)
  have hown : st.vm.findClass R_O = some mm.cls := findClass_of_methodNamed B.named
  have hl := lv_entry ([.ref o0, .long (lN a), .long (lN b)]) (n := 8) (Nat.le_of_ble_eq_true rfl)
  rw [lg_entry_eq]
  generalize (lg_sl ([.ref o0, .long (lN a), .long (lN b)]) ++ List.replicate (8 - (lg_sl ([.ref o0, .long (lN a), .long (lN b)])).length) Slot.unset).toArray = ls at hl ⊢
  have hl : lv_has ls 8 [(0, .ref o0), (1, .long (lN a)), (3, .long (lN b))] := hl
  have hn := hm.2.1
  have hb3 := res_lt hm hb2
  have loop : ∀ (K : Nat), K ≤ n → ∀ (ls : Array Slot), lv_has ls 8 [(0, .ref o0), (1, .long (lN a)), (3, .long (lN b)), (5, .long (lN (px_r p (px_m a (b / 2 ^ K))))), (7, .int (jm K))] → W pg l en (headSpec w_O_product ({ frames := 1, cells := 0, slots := 0, locals := 24 } : Room)).room st mm ([.ref o0, .long (lN a), .long (lN b)] : List Value).toArray bw me co st.heap [] 0 0 (MQ bw (vp_Sl (fun r => r = lN (px_r p (px_m a b)))) ([.ref o0, .long (lN a), .long (lN b)] : List Value).toArray st 0 0 (fun _ => False)) (F0 mm 11 ls []) := by
    intro K
    induction K with
    | zero =>
      intro hKn ls hl
      refine lv_iload hx hb d_O_product_11 (lv_at hl 4 rfl) ?_
      refine lv_if_lt (tgt := 52) hx hb d_O_product_13 (by decide) (fun hc => ?_) (fun hc => ?_)
      · refine lv_lload hx hb d_O_product_52 (lv_at hl 3 rfl) ?_
        refine lv_topl (nm_r (show _ = lN (px_r p (px_m a b)) from show lN (px_r p (px_m a (b / 2 ^ 0))) = _ from by rw [Nat.pow_zero, Nat.div_one]) ?_)
        exact W.lret (v := lN (px_r p (px_m a b))) hx hb hr (fun t9 ht hW => ⟨lN (px_r p (px_m a b)), rfl, rfl, ht⟩) (fun _ h => nomatch h) d_O_product_54
      · exact absurd ((jm_neg (by decide)).mpr rfl) hc
    | succ K ih =>
      intro hKn ls hl
      have ht := pd_turn hm a b K ha
      refine lv_iload hx hb d_O_product_11 (lv_at hl 4 rfl) ?_
      refine lv_if_lt (tgt := 52) hx hb d_O_product_13 (by decide) (fun hc => ?_) (fun hc => ?_)
      · exact absurd ((jm_neg (by omega)).mp hc) (by omega)
      · have e9 : (jm (K + 1)) = (nI K) := jm_succ K
        have hl : lv_has ls 8 [(0, .ref o0), (1, .long (lN a)), (3, .long (lN b)), (5, .long (lN (px_r p (px_m a (b / 2 ^ (K + 1)))))), (7, .int (nI K))] := by rw [← e9]; exact hl
        refine lv_aload_n hx hb d_O_product_16 rfl (lv_at hl 0 rfl) ?_
        refine lv_lload hx hb d_O_product_17 (lv_at hl 3 rfl) ?_
        refine vp_callSl (va_Run.run (va_runV (As := [.long (lN (px_r p (px_m a (b / 2 ^ (K + 1)))))]) (rest := []) ⟨hx, hb, hml, hown, hts⟩ (c_O_step l dC dI cI cL o0 g1 g2 g3 g4 g5 g6 g7 g8 fl p n vr ir od cc gc oc hm _ (px_r_lt hm _)) (cwV 1 hts (gi_V kw_608 kw_610 ks_O_step kw_5 gi_O_step) rfl rfl rfl ⟨rfl, by decide, by decide, by decide⟩ ⟨Nat.le_of_ble_eq_true rfl, Nat.le_of_ble_eq_true rfl⟩) (wq_preVR hP hK hN [0] rfl (q0 := 0) (ci := 4) rfl rfl rfl) rfl rfl hl.1 rfl (lv_room (Nat.le_of_ble_eq_true rfl)) d_O_product_19 ⟨Nat.le_of_ble_eq_true rfl, Nat.le_of_ble_eq_true rfl⟩)) (fun r hq => ?_)
        subst hq
        refine lv_lstore (lv' := [(5, .long (lN (px_r p (2 * px_r p (px_m a (b / 2 ^ (K + 1))))))), (0, .ref o0), (1, .long (lN a)), (3, .long (lN b)), (7, .int (nI K))]) hx hb d_O_product_22 hl (by decide) rfl (fun ls hl => ?_)
        refine lv_lload_n hx hb d_O_product_24 rfl (lv_at hl 3 rfl) ?_
        refine lv_iload hx hb d_O_product_25 (lv_at hl 4 rfl) ?_
        refine lv_lshr (v := lN b >>> ((nI K).toInt64 &&& 63)) hx hb d_O_product_27 (rfl) ?_
        refine lv_lconst (v := lN 1) hx hb d_O_product_28 (by decide) ?_
        refine lv_land hx hb d_O_product_29 ?_
        refine lv_topl (nm_r (show _ = lN (b / 2 ^ K % 2) from sb1 (show b < 2 ^ 64 by omega) (by omega)) ?_)
        refine lv_lconst (v := lN 1) hx hb d_O_product_30 (by decide) ?_
        refine W.lcmp hx hb d_O_product_31 ?_
        refine lv_if_ne (tgt := 42) hx hb d_O_product_32 (by decide) (fun hbit => ?_) (fun hbit => ?_)
        · have hbit : ¬ b / 2 ^ K % 2 = 1 := fun z => cmq_ne hbit (by rw [z])
          rw [if_neg hbit] at ht
          refine lv_lload hx hb d_O_product_42 (lv_at hl 0 rfl) ?_
          refine lv_topl (nm_r (show _ = lN (px_r p (px_m a (b / 2 ^ K))) from congrArg lN ht) ?_)
          refine lv_lstore (lv' := [(5, .long (lN (px_r p (px_m a (b / 2 ^ K))))), (0, .ref o0), (1, .long (lN a)), (3, .long (lN b)), (7, .int (nI K))]) hx hb d_O_product_44 hl (by decide) rfl (fun ls hl => ?_)
          refine lv_iinc (v := jm K) (lv' := [(7, .int (jm K)), (5, .long (lN (px_r p (px_m a (b / 2 ^ K))))), (0, .ref o0), (1, .long (lN a)), (3, .long (lN b))]) hx hb d_O_product_46 hl (k := 4) rfl (jm_dec K) (by decide) rfl (fun ls hl => ?_)
          refine lv_goto (tgt := 11) hx hb d_O_product_49 (by decide) ?_
          have hl := lv_sub (l' := [(0, .ref o0), (1, .long (lN a)), (3, .long (lN b)), (5, .long (lN (px_r p (px_m a (b / 2 ^ K))))), (7, .int (jm K))]) hl [2, 3, 4, 1, 0] rfl
          exact ih (by omega) ls hl
        · have hbit : b / 2 ^ K % 2 = 1 := lN_b1.mp (cmq_eq hbit)
          rw [if_pos hbit] at ht
          refine lv_lload hx hb d_O_product_35 (lv_at hl 0 rfl) ?_
          refine lv_lload_n hx hb d_O_product_37 rfl (lv_at hl 2 rfl) ?_
          refine lv_lxor hx hb d_O_product_38 ?_
          refine lv_topl (nm_r (show _ = lN (px_r p (px_m a (b / 2 ^ K))) from (lN_xor _ _).trans (by rw [ht])) ?_)
          refine lv_goto (tgt := 44) hx hb d_O_product_39 (by decide) ?_
          refine lv_lstore (lv' := [(5, .long (lN (px_r p (px_m a (b / 2 ^ K))))), (0, .ref o0), (1, .long (lN a)), (3, .long (lN b)), (7, .int (nI K))]) hx hb d_O_product_44 hl (by decide) rfl (fun ls hl => ?_)
          refine lv_iinc (v := jm K) (lv' := [(7, .int (jm K)), (5, .long (lN (px_r p (px_m a (b / 2 ^ K))))), (0, .ref o0), (1, .long (lN a)), (3, .long (lN b))]) hx hb d_O_product_46 hl (k := 4) rfl (jm_dec K) (by decide) rfl (fun ls hl => ?_)
          refine lv_goto (tgt := 11) hx hb d_O_product_49 (by decide) ?_
          have hl := lv_sub (l' := [(0, .ref o0), (1, .long (lN a)), (3, .long (lN b)), (5, .long (lN (px_r p (px_m a (b / 2 ^ K))))), (7, .int (jm K))]) hl [2, 3, 4, 1, 0] rfl
          exact ih (by omega) ls hl
  refine lv_lconst (v := lN 0) hx hb d_O_product_0 (by decide) ?_
  refine lv_lstore (lv' := [(5, .long (lN 0)), (0, .ref o0), (1, .long (lN a)), (3, .long (lN b))]) hx hb d_O_product_1 hl (by decide) rfl (fun ls hl => ?_)
  refine lv_aload_n hx hb d_O_product_3 rfl (lv_at hl 1 rfl) ?_
  refine va_get (D := (dC, dI)) (ci := 4) (v := .int (nI n)) (C := R_O) (T := F_O) (N := 17) hx hb hts in_O hown hK hP 0 rfl rfl 2 (by decide) (hts _ kw_530) (fun _ h9 => h9) rfl d_O_product_4 ?_
  refine lv_iconst (v := nI 1) hx hb d_O_product_7 (by decide) ?_
  refine lv_isub hx hb d_O_product_8 ?_
  refine lv_topi (nm_r (show _ = jm n from rfl) ?_)
  refine lv_istore (lv' := [(7, .int (jm n)), (5, .long (lN 0)), (0, .ref o0), (1, .long (lN a)), (3, .long (lN b))]) hx hb d_O_product_9 hl (by decide) rfl (fun ls hl => ?_)
  have e9 : (lN 0) = (lN (px_r p (px_m a (b / 2 ^ n)))) := by rw [Nat.div_eq_of_lt hb2, px_m_zero, px_r_self hm (Nat.two_pow_pos n)]
  have hl : lv_has ls 8 [(7, .int (jm n)), (5, .long (lN (px_r p (px_m a (b / 2 ^ n))))), (0, .ref o0), (1, .long (lN a)), (3, .long (lN b))] := by rw [← e9]; exact hl
  have hl := lv_sub (l' := [(0, .ref o0), (1, .long (lN a)), (3, .long (lN b)), (5, .long (lN (px_r p (px_m a (b / 2 ^ n))))), (7, .int (jm n))]) hl [2, 3, 4, 1, 0] rfl
  exact loop n (Nat.le_refl n) ls hl
set_option maxHeartbeats 4000000 in
set_option maxRecDepth 100000 in
theorem c_O_left (l : Launch) (a b k : Nat) (hm : md b k) (ha : a < 2 ^ 64) : Met l y_O_left w_O_left ({ frames := 0, cells := 0, slots := 0, locals := 0 } : Room) (va_Pc [.long (lN a), .long (lN b), .int (nI k)] (fun _ => True)) (vp_Sl (fun r => r = lN (px_r b a))) 0 0 (fun _ => False) := by
  refine Met.ofW (cc := b_O_left) (maxL := 8) (ret := (Option.some Jvm.ClassFile.FieldType.long)) (by decide) rfl ?_
  intro pg en st mm ar bw me co s₁ B hml hv
  obtain ⟨rfl, -⟩ := hv
  have hx := B.exec
  have hb := B.bytes
  have hr := B.returns
  have hlocks := B.notSynchronized
  have hts0 := atoms_spec (ws := w_O_left) B.pre
  have hts : ∀ w ∈ gw, w.before _ st = true := fun w h => hts0 w (List.mem_cons_of_mem _ h)
  have hown : st.vm.findClass R_O = some mm.cls := findClass_of_methodNamed B.named
  have hl := lv_entry ([.long (lN a), .long (lN b), .int (nI k)]) (n := 8) (Nat.le_of_ble_eq_true rfl)
  rw [lg_entry_eq]
  generalize (lg_sl ([.long (lN a), .long (lN b), .int (nI k)]) ++ List.replicate (8 - (lg_sl ([.long (lN a), .long (lN b), .int (nI k)])).length) Slot.unset).toArray = ls at hl ⊢
  have hl : lv_has ls 8 [(0, .long (lN a)), (2, .long (lN b)), (4, .int (nI k))] := hl
  have hn := hm.2.1
  have hn1 := hm.1
  have loop : ∀ (j v : Nat), k + j ≤ 64 → v < 2 ^ (k + j) → px_cg b v a → ∀ (ls : Array Slot), lv_has ls 8 [(0, .long (lN a)), (2, .long (lN b)), (4, .int (nI k)), (5, .long (lN v)), (7, .int (jm (k + j)))] → W pg l en (headSpec w_O_left ({ frames := 0, cells := 0, slots := 0, locals := 0 } : Room)).room st mm ([.long (lN a), .long (lN b), .int (nI k)] : List Value).toArray bw me co st.heap [] 0 0 (MQ bw (vp_Sl (fun r => r = lN (px_r b a))) ([.long (lN a), .long (lN b), .int (nI k)] : List Value).toArray st 0 0 (fun _ => False)) (F0 mm 7 ls []) := by
    intro j
    induction j with
    | zero =>
      intro v hj hv hcg ls hl
      refine lv_iload hx hb d_O_left_7 (lv_at hl 4 rfl) ?_
      refine lv_iload hx hb d_O_left_9 (lv_at hl 2 rfl) ?_
      refine lv_icmp_lt (tgt := 49) hx hb d_O_left_11 (by decide) (fun hc => ?_) (fun hc => ?_)
      · refine lv_lload hx hb d_O_left_49 (lv_at hl 3 rfl) ?_
        refine lv_topl (nm_r (show _ = lN (px_r b a) from congrArg lN (px_r_of hm hv hcg).symm) ?_)
        exact W.lret (v := lN (px_r b a)) hx hb hr (fun t9 ht hW => ⟨lN (px_r b a), rfl, rfl, ht⟩) (fun _ h => nomatch h) d_O_left_51
      · exact absurd ((jm_lt (by omega) (by omega)).mpr (by omega)) hc
    | succ j ih =>
      intro v hj hv hcg ls hl
      obtain ⟨hd1, hd2⟩ := dv_turn hm.2.2.1 hm.2.2.2.1 (Nat.le_add_right k j) hv
      have hv64 : v < 2 ^ 64 := Nat.lt_of_lt_of_le hv (Nat.pow_le_pow_right (by decide) (by omega))
      refine lv_iload hx hb d_O_left_7 (lv_at hl 4 rfl) ?_
      refine lv_iload hx hb d_O_left_9 (lv_at hl 2 rfl) ?_
      refine lv_icmp_lt (tgt := 49) hx hb d_O_left_11 (by decide) (fun hc => ?_) (fun hc => ?_)
      · exact absurd ((jm_lt (by omega) (by omega)).mp hc) (by omega)
      · have e9 : (jm (k + j + 1)) = (nI (k + j)) := jm_succ (k + j)
        have hl : lv_has ls 8 [(0, .long (lN a)), (2, .long (lN b)), (4, .int (nI k)), (5, .long (lN v)), (7, .int (nI (k + j)))] := by rw [← e9]; exact hl
        refine lv_lload hx hb d_O_left_14 (lv_at hl 3 rfl) ?_
        refine lv_iload hx hb d_O_left_16 (lv_at hl 4 rfl) ?_
        refine lv_lshr (v := lN v >>> ((nI (k + j)).toInt64 &&& 63)) hx hb d_O_left_18 (rfl) ?_
        refine lv_lconst (v := lN 1) hx hb d_O_left_19 (by decide) ?_
        refine lv_land hx hb d_O_left_20 ?_
        refine lv_topl (nm_r (show _ = lN (v / 2 ^ (k + j) % 2) from sb1 hv64 (by omega)) ?_)
        refine lv_lconst (v := lN 1) hx hb d_O_left_21 (by decide) ?_
        refine W.lcmp hx hb d_O_left_22 ?_
        refine lv_if_ne (tgt := 39) hx hb d_O_left_23 (by decide) (fun hbit => ?_) (fun hbit => ?_)
        · have hbit : ¬ v / 2 ^ (k + j) % 2 = 1 := fun z => cmq_ne hbit (by rw [z])
          rw [if_neg hbit] at hd1 hd2
          refine lv_lload hx hb d_O_left_39 (lv_at hl 3 rfl) ?_
          refine lv_lstore (lv' := [(5, .long (lN v)), (0, .long (lN a)), (2, .long (lN b)), (4, .int (nI k)), (7, .int (nI (k + j)))]) hx hb d_O_left_41 hl (by decide) rfl (fun ls hl => ?_)
          refine lv_iinc (v := jm (k + j)) (lv' := [(7, .int (jm (k + j))), (5, .long (lN v)), (0, .long (lN a)), (2, .long (lN b)), (4, .int (nI k))]) hx hb d_O_left_43 hl (k := 4) rfl (jm_dec (k + j)) (by decide) rfl (fun ls hl => ?_)
          refine lv_goto (tgt := 7) hx hb d_O_left_46 (by decide) ?_
          have hl := lv_sub (l' := [(0, .long (lN a)), (2, .long (lN b)), (4, .int (nI k)), (5, .long (lN v)), (7, .int (jm (k + j)))]) hl [2, 3, 4, 1, 0] rfl
          exact ih (v) (by omega) hd1 (px_cg_trans hd2 hcg) ls hl
        · have hbit : v / 2 ^ (k + j) % 2 = 1 := lN_b1.mp (cmq_eq hbit)
          rw [if_pos hbit] at hd1 hd2
          refine lv_lload hx hb d_O_left_26 (lv_at hl 3 rfl) ?_
          refine lv_lload_n hx hb d_O_left_28 rfl (lv_at hl 1 rfl) ?_
          refine lv_iload hx hb d_O_left_29 (lv_at hl 4 rfl) ?_
          refine lv_iload hx hb d_O_left_31 (lv_at hl 2 rfl) ?_
          refine lv_isub hx hb d_O_left_33 ?_
          refine lv_topi (nm_r (show _ = nI (k + j - k) from pk_sub (Nat.le_add_right k j)) ?_)
          refine lv_lshl (v := lN (b * 2 ^ (k + j - k))) hx hb d_O_left_34 (wb_shl b (by omega)) ?_
          refine lv_lxor hx hb d_O_left_35 ?_
          refine lv_topl (nm_r (show _ = lN (v ^^^ b * 2 ^ (k + j - k)) from lN_xor _ _) ?_)
          refine lv_goto (tgt := 41) hx hb d_O_left_36 (by decide) ?_
          refine lv_lstore (lv' := [(5, .long (lN (v ^^^ b * 2 ^ (k + j - k)))), (0, .long (lN a)), (2, .long (lN b)), (4, .int (nI k)), (7, .int (nI (k + j)))]) hx hb d_O_left_41 hl (by decide) rfl (fun ls hl => ?_)
          refine lv_iinc (v := jm (k + j)) (lv' := [(7, .int (jm (k + j))), (5, .long (lN (v ^^^ b * 2 ^ (k + j - k)))), (0, .long (lN a)), (2, .long (lN b)), (4, .int (nI k))]) hx hb d_O_left_43 hl (k := 4) rfl (jm_dec (k + j)) (by decide) rfl (fun ls hl => ?_)
          refine lv_goto (tgt := 7) hx hb d_O_left_46 (by decide) ?_
          have hl := lv_sub (l' := [(0, .long (lN a)), (2, .long (lN b)), (4, .int (nI k)), (5, .long (lN (v ^^^ b * 2 ^ (k + j - k)))), (7, .int (jm (k + j)))]) hl [2, 3, 4, 1, 0] rfl
          exact ih (v ^^^ b * 2 ^ (k + j - k)) (by omega) hd1 (px_cg_trans hd2 hcg) ls hl
  refine lv_lload_n hx hb d_O_left_0 rfl (lv_at hl 0 rfl) ?_
  refine lv_lstore (lv' := [(5, .long (lN a)), (0, .long (lN a)), (2, .long (lN b)), (4, .int (nI k))]) hx hb d_O_left_1 hl (by decide) rfl (fun ls hl => ?_)
  refine lv_bipush (v := nI 63) hx hb d_O_left_3 (by decide) ?_
  refine lv_topi (nm_r (show _ = jm (k + (64 - k)) from by rw [show k + (64 - k) = 64 by omega]; decide) ?_)
  refine lv_istore (lv' := [(7, .int (jm (k + (64 - k)))), (5, .long (lN a)), (0, .long (lN a)), (2, .long (lN b)), (4, .int (nI k))]) hx hb d_O_left_5 hl (by decide) rfl (fun ls hl => ?_)
  have hl := lv_sub (l' := [(0, .long (lN a)), (2, .long (lN b)), (4, .int (nI k)), (5, .long (lN a)), (7, .int (jm (k + (64 - k))))]) hl [2, 3, 4, 1, 0] rfl
  exact loop (64 - k) a (by omega) (by rw [show k + (64 - k) = 64 by omega]; exact ha) (px_cg_refl _ _) ls hl
set_option maxHeartbeats 4000000 in
set_option maxRecDepth 100000 in
theorem c_O_reduced (l : Launch) (dC : Nat → ClassId) (dI : Nat → Nat → Nat) (cI cL : ClassId) (o0 g1 g2 g3 g4 g5 g6 g7 g8 : Nat) (fl p n vr ir od cc gc oc : Nat) (hm : md p n) (a : Nat) (ha : a < 2 ^ 64) : Met l y_O_reduced w_O_reduced ({ frames := 1, cells := 0, slots := 0, locals := 27 } : Room) (va_Pc [.ref o0, .long (lN a)] (wq_R (dC, dI) classes [(o0, .inr (4, [.int (nI fl), .long (lN p), .int (nI n), .long (lN vr), .int (nI ir), .long (lN od), .int (nI cc), .ref g1, .int (nI gc), .ref g2, .ref g3, .ref g4, .int (nI oc), .ref g5, .ref g6, .ref g7, .ref g8]))] [(cI, .int), (cL, .long)])) (vp_Sl (fun r => r = lN (px_r p a))) 0 0 (fun _ => False) := by
  refine Met.ofW (cc := b_O_reduced) (maxL := 3) (ret := (Option.some Jvm.ClassFile.FieldType.long)) (by decide) rfl ?_
  intro pg en st mm ar bw me co s₁ B hml hv
  obtain ⟨rfl, hP, hK, hN⟩ := hv
  have hx := B.exec
  have hb := B.bytes
  have hr := B.returns
  have hlocks := B.notSynchronized
  have hts0 := atoms_spec (ws := w_O_reduced) B.pre
  have hts : ∀ w ∈ gw, w.before _ st = true := fun w h => hts0 w (List.mem_cons_of_mem _ h)
  have hown : st.vm.findClass R_O = some mm.cls := findClass_of_methodNamed B.named
  have hl := lv_entry ([.ref o0, .long (lN a)]) (n := 3) (Nat.le_of_ble_eq_true rfl)
  rw [lg_entry_eq]
  generalize (lg_sl ([.ref o0, .long (lN a)]) ++ List.replicate (3 - (lg_sl ([.ref o0, .long (lN a)])).length) Slot.unset).toArray = ls at hl ⊢
  have hl : lv_has ls 3 [(0, .ref o0), (1, .long (lN a))] := hl
  refine lv_lload_n hx hb d_O_reduced_0 rfl (lv_at hl 1 rfl) ?_
  refine lv_aload_n hx hb d_O_reduced_1 rfl (lv_at hl 0 rfl) ?_
  refine va_get (D := (dC, dI)) (ci := 4) (v := .long (lN p)) (C := R_O) (T := F_O) (N := 17) hx hb hts in_O hown hK hP 0 rfl rfl 1 (by decide) (hts _ kw_529) (fun _ h9 => h9) rfl d_O_reduced_2 ?_
  refine lv_aload_n hx hb d_O_reduced_5 rfl (lv_at hl 0 rfl) ?_
  refine va_get (D := (dC, dI)) (ci := 4) (v := .int (nI n)) (C := R_O) (T := F_O) (N := 17) hx hb hts in_O hown hK hP 0 rfl rfl 2 (by decide) (hts _ kw_530) (fun _ h9 => h9) rfl d_O_reduced_6 ?_
  refine vp_callSl (va_Run.run (va_runS (As := [.long (lN a), .long (lN p), .int (nI n)]) (rest := []) ⟨hx, hb, hml, hown, hts⟩ (c_O_left l a p n hm ha) (va_cwS 3 hts (gi_S kw_625 kw_626 kw_5 gi_O_left) rfl rfl rfl ⟨by decide, by decide, by decide⟩ ⟨Nat.le_of_ble_eq_true rfl, Nat.le_of_ble_eq_true rfl⟩) wq_preS0 rfl rfl hl.1 rfl (lv_room (Nat.le_of_ble_eq_true rfl)) d_O_reduced_9 ⟨Nat.le_of_ble_eq_true rfl, Nat.le_of_ble_eq_true rfl⟩)) (fun r hq => ?_)
  subst hq
  exact W.lret (v := lN (px_r p a)) hx hb hr (fun t9 ht hW => ⟨lN (px_r p a), rfl, rfl, ht⟩) (fun _ h => nomatch h) d_O_reduced_12
set_option maxHeartbeats 4000000 in
set_option maxRecDepth 100000 in
theorem c_O_raised (l : Launch) (dC : Nat → ClassId) (dI : Nat → Nat → Nat) (cI cL : ClassId) (o0 g1 g2 g3 g4 g5 g6 g7 g8 : Nat) (fl p n vr ir od cc gc oc : Nat) (hm : md p n) (a e : Nat) (ha : a < 2 ^ n) (he : e < 2 ^ 63) : Met l y_O_raised w_O_raised ({ frames := 2, cells := 0, slots := 0, locals := 51 } : Room) (va_Pc [.ref o0, .long (lN a), .long (lN e)] (wq_R (dC, dI) classes [(o0, .inr (4, [.int (nI fl), .long (lN p), .int (nI n), .long (lN vr), .int (nI ir), .long (lN od), .int (nI cc), .ref g1, .int (nI gc), .ref g2, .ref g3, .ref g4, .int (nI oc), .ref g5, .ref g6, .ref g7, .ref g8]))] [(cI, .int), (cL, .long)])) (vp_Sl (fun r => r = lN (px_r p (px_pw a e)))) 0 0 (fun _ => False) := by
  refine Met.ofW (cc := b_O_raised) (maxL := 8) (ret := (Option.some Jvm.ClassFile.FieldType.long)) (by decide) rfl ?_
  intro pg en st mm ar bw me co s₁ B hml hv
  obtain ⟨rfl, hP, hK, hN⟩ := hv
  have hx := B.exec
  have hb := B.bytes
  have hr := B.returns
  have hlocks := B.notSynchronized
  have hts0 := atoms_spec (ws := w_O_raised) B.pre
  have hts : ∀ w ∈ gw, w.before _ st = true := fun w h => hts0 w (List.mem_cons_of_mem _ h)
  have hown : st.vm.findClass R_O = some mm.cls := findClass_of_methodNamed B.named
  have hl := lv_entry ([.ref o0, .long (lN a), .long (lN e)]) (n := 8) (Nat.le_of_ble_eq_true rfl)
  rw [lg_entry_eq]
  generalize (lg_sl ([.ref o0, .long (lN a), .long (lN e)]) ++ List.replicate (8 - (lg_sl ([.ref o0, .long (lN a), .long (lN e)])).length) Slot.unset).toArray = ls at hl ⊢
  have hl : lv_has ls 8 [(0, .ref o0), (1, .long (lN a)), (3, .long (lN e))] := hl
  have loop : ∀ (K : Nat), K ≤ 63 → ∀ (ls : Array Slot), lv_has ls 8 [(0, .ref o0), (1, .long (lN a)), (3, .long (lN e)), (5, .long (lN (px_r p (px_pw a (e / 2 ^ K))))), (7, .int (jm K))] → W pg l en (headSpec w_O_raised ({ frames := 2, cells := 0, slots := 0, locals := 51 } : Room)).room st mm ([.ref o0, .long (lN a), .long (lN e)] : List Value).toArray bw me co st.heap [] 0 0 (MQ bw (vp_Sl (fun r => r = lN (px_r p (px_pw a e)))) ([.ref o0, .long (lN a), .long (lN e)] : List Value).toArray st 0 0 (fun _ => False)) (F0 mm 11 ls []) := by
    intro K
    induction K with
    | zero =>
      intro hKn ls hl
      refine lv_iload hx hb d_O_raised_11 (lv_at hl 4 rfl) ?_
      refine lv_if_lt (tgt := 57) hx hb d_O_raised_13 (by decide) (fun hc => ?_) (fun hc => ?_)
      · refine lv_lload hx hb d_O_raised_57 (lv_at hl 3 rfl) ?_
        refine lv_topl (nm_r (show _ = lN (px_r p (px_pw a e)) from show lN (px_r p (px_pw a (e / 2 ^ 0))) = _ from by rw [Nat.pow_zero, Nat.div_one]) ?_)
        exact W.lret (v := lN (px_r p (px_pw a e))) hx hb hr (fun t9 ht hW => ⟨lN (px_r p (px_pw a e)), rfl, rfl, ht⟩) (fun _ h => nomatch h) d_O_raised_59
      · exact absurd ((jm_neg (by decide)).mpr rfl) hc
    | succ K ih =>
      intro hKn ls hl
      have ht := pw_high hm a e K ha
      refine lv_iload hx hb d_O_raised_11 (lv_at hl 4 rfl) ?_
      refine lv_if_lt (tgt := 57) hx hb d_O_raised_13 (by decide) (fun hc => ?_) (fun hc => ?_)
      · exact absurd ((jm_neg (by omega)).mp hc) (by omega)
      · have e9 : (jm (K + 1)) = (nI K) := jm_succ K
        have hl : lv_has ls 8 [(0, .ref o0), (1, .long (lN a)), (3, .long (lN e)), (5, .long (lN (px_r p (px_pw a (e / 2 ^ (K + 1)))))), (7, .int (nI K))] := by rw [← e9]; exact hl
        refine lv_aload_n hx hb d_O_raised_16 rfl (lv_at hl 0 rfl) ?_
        refine lv_lload hx hb d_O_raised_17 (lv_at hl 3 rfl) ?_
        refine lv_lload hx hb d_O_raised_19 (lv_at hl 3 rfl) ?_
        refine vp_callSl (va_Run.run (va_runV (As := [.long (lN (px_r p (px_pw a (e / 2 ^ (K + 1))))), .long (lN (px_r p (px_pw a (e / 2 ^ (K + 1)))))]) (rest := []) ⟨hx, hb, hml, hown, hts⟩ (c_O_product l dC dI cI cL o0 g1 g2 g3 g4 g5 g6 g7 g8 fl p n vr ir od cc gc oc hm _ _ (px_r_lt hm _) (px_r_lt hm _)) (cwV 2 hts (gi_V kw_604 kw_606 ks_O_product kw_5 gi_O_product) rfl rfl rfl ⟨rfl, by decide, by decide, by decide⟩ ⟨Nat.le_of_ble_eq_true rfl, Nat.le_of_ble_eq_true rfl⟩) (wq_preVR hP hK hN [0] rfl (q0 := 0) (ci := 4) rfl rfl rfl) rfl rfl hl.1 rfl (lv_room (Nat.le_of_ble_eq_true rfl)) d_O_raised_21 ⟨Nat.le_of_ble_eq_true rfl, Nat.le_of_ble_eq_true rfl⟩)) (fun r hq => ?_)
        subst hq
        refine lv_lstore (lv' := [(5, .long (lN (px_r p (px_m (px_r p (px_pw a (e / 2 ^ (K + 1)))) (px_r p (px_pw a (e / 2 ^ (K + 1)))))))), (0, .ref o0), (1, .long (lN a)), (3, .long (lN e)), (7, .int (nI K))]) hx hb d_O_raised_24 hl (by decide) rfl (fun ls hl => ?_)
        refine lv_lload_n hx hb d_O_raised_26 rfl (lv_at hl 3 rfl) ?_
        refine lv_iload hx hb d_O_raised_27 (lv_at hl 4 rfl) ?_
        refine lv_lshr (v := lN e >>> ((nI K).toInt64 &&& 63)) hx hb d_O_raised_29 (rfl) ?_
        refine lv_lconst (v := lN 1) hx hb d_O_raised_30 (by decide) ?_
        refine lv_land hx hb d_O_raised_31 ?_
        refine lv_topl (nm_r (show _ = lN (e / 2 ^ K % 2) from sb1 (show e < 2 ^ 64 by omega) (by omega)) ?_)
        refine lv_lconst (v := lN 1) hx hb d_O_raised_32 (by decide) ?_
        refine W.lcmp hx hb d_O_raised_33 ?_
        refine lv_if_ne (tgt := 47) hx hb d_O_raised_34 (by decide) (fun hbit => ?_) (fun hbit => ?_)
        · have hbit : ¬ e / 2 ^ K % 2 = 1 := fun z => cmq_ne hbit (by rw [z])
          rw [if_neg hbit] at ht
          refine lv_lload hx hb d_O_raised_47 (lv_at hl 0 rfl) ?_
          refine lv_topl (nm_r (show _ = lN (px_r p (px_pw a (e / 2 ^ K))) from congrArg lN ht) ?_)
          refine lv_lstore (lv' := [(5, .long (lN (px_r p (px_pw a (e / 2 ^ K))))), (0, .ref o0), (1, .long (lN a)), (3, .long (lN e)), (7, .int (nI K))]) hx hb d_O_raised_49 hl (by decide) rfl (fun ls hl => ?_)
          refine lv_iinc (v := jm K) (lv' := [(7, .int (jm K)), (5, .long (lN (px_r p (px_pw a (e / 2 ^ K))))), (0, .ref o0), (1, .long (lN a)), (3, .long (lN e))]) hx hb d_O_raised_51 hl (k := 4) rfl (jm_dec K) (by decide) rfl (fun ls hl => ?_)
          refine lv_goto (tgt := 11) hx hb d_O_raised_54 (by decide) ?_
          have hl := lv_sub (l' := [(0, .ref o0), (1, .long (lN a)), (3, .long (lN e)), (5, .long (lN (px_r p (px_pw a (e / 2 ^ K))))), (7, .int (jm K))]) hl [2, 3, 4, 1, 0] rfl
          exact ih (by omega) ls hl
        · have hbit : e / 2 ^ K % 2 = 1 := lN_b1.mp (cmq_eq hbit)
          rw [if_pos hbit] at ht
          refine lv_aload_n hx hb d_O_raised_37 rfl (lv_at hl 1 rfl) ?_
          refine lv_lload hx hb d_O_raised_38 (lv_at hl 0 rfl) ?_
          refine lv_lload_n hx hb d_O_raised_40 rfl (lv_at hl 2 rfl) ?_
          refine vp_callSl (va_Run.run (va_runV (As := [.long (lN (px_r p (px_m (px_r p (px_pw a (e / 2 ^ (K + 1)))) (px_r p (px_pw a (e / 2 ^ (K + 1))))))), .long (lN a)]) (rest := []) ⟨hx, hb, hml, hown, hts⟩ (c_O_product l dC dI cI cL o0 g1 g2 g3 g4 g5 g6 g7 g8 fl p n vr ir od cc gc oc hm _ a (px_r_lt hm _) ha) (cwV 2 hts (gi_V kw_604 kw_606 ks_O_product kw_5 gi_O_product) rfl rfl rfl ⟨rfl, by decide, by decide, by decide⟩ ⟨Nat.le_of_ble_eq_true rfl, Nat.le_of_ble_eq_true rfl⟩) (wq_preVR hP hK hN [0] rfl (q0 := 0) (ci := 4) rfl rfl rfl) rfl rfl hl.1 rfl (lv_room (Nat.le_of_ble_eq_true rfl)) d_O_raised_41 ⟨Nat.le_of_ble_eq_true rfl, Nat.le_of_ble_eq_true rfl⟩)) (fun r2 hq2 => ?_)
          subst hq2
          refine lv_topl (nm_r (show _ = lN (px_r p (px_pw a (e / 2 ^ K))) from congrArg lN ht) ?_)
          refine lv_goto (tgt := 49) hx hb d_O_raised_44 (by decide) ?_
          refine lv_lstore (lv' := [(5, .long (lN (px_r p (px_pw a (e / 2 ^ K))))), (0, .ref o0), (1, .long (lN a)), (3, .long (lN e)), (7, .int (nI K))]) hx hb d_O_raised_49 hl (by decide) rfl (fun ls hl => ?_)
          refine lv_iinc (v := jm K) (lv' := [(7, .int (jm K)), (5, .long (lN (px_r p (px_pw a (e / 2 ^ K))))), (0, .ref o0), (1, .long (lN a)), (3, .long (lN e))]) hx hb d_O_raised_51 hl (k := 4) rfl (jm_dec K) (by decide) rfl (fun ls hl => ?_)
          refine lv_goto (tgt := 11) hx hb d_O_raised_54 (by decide) ?_
          have hl := lv_sub (l' := [(0, .ref o0), (1, .long (lN a)), (3, .long (lN e)), (5, .long (lN (px_r p (px_pw a (e / 2 ^ K))))), (7, .int (jm K))]) hl [2, 3, 4, 1, 0] rfl
          exact ih (by omega) ls hl
  refine lv_aload_n hx hb d_O_raised_0 rfl (lv_at hl 0 rfl) ?_
  refine lv_lconst (v := lN 1) hx hb d_O_raised_1 (by decide) ?_
  refine vp_callSl (va_Run.run (va_runV (As := [.long (lN 1)]) (rest := []) ⟨hx, hb, hml, hown, hts⟩ (c_O_reduced l dC dI cI cL o0 g1 g2 g3 g4 g5 g6 g7 g8 fl p n vr ir od cc gc oc hm 1 (by decide)) (cwV 1 hts (gi_V kw_621 kw_623 ks_O_reduced kw_5 gi_O_reduced) rfl rfl rfl ⟨rfl, by decide, by decide, by decide⟩ ⟨Nat.le_of_ble_eq_true rfl, Nat.le_of_ble_eq_true rfl⟩) (wq_preVR hP hK hN [0] rfl (q0 := 0) (ci := 4) rfl rfl rfl) rfl rfl hl.1 rfl (lv_room (Nat.le_of_ble_eq_true rfl)) d_O_raised_2 ⟨Nat.le_of_ble_eq_true rfl, Nat.le_of_ble_eq_true rfl⟩)) (fun r hq => ?_)
  subst hq
  refine lv_lstore (lv' := [(5, .long (lN (px_r p 1))), (0, .ref o0), (1, .long (lN a)), (3, .long (lN e))]) hx hb d_O_raised_5 hl (by decide) rfl (fun ls hl => ?_)
  refine lv_bipush (v := nI 62) hx hb d_O_raised_7 (by decide) ?_
  refine lv_topi (nm_r (show _ = jm 63 from by decide) ?_)
  refine lv_istore (lv' := [(7, .int (jm 63)), (5, .long (lN (px_r p 1))), (0, .ref o0), (1, .long (lN a)), (3, .long (lN e))]) hx hb d_O_raised_9 hl (by decide) rfl (fun ls hl => ?_)
  have e9 : (lN (px_r p 1)) = (lN (px_r p (px_pw a (e / 2 ^ 63)))) := by rw [Nat.div_eq_of_lt he]; rfl
  have hl : lv_has ls 8 [(7, .int (jm 63)), (5, .long (lN (px_r p (px_pw a (e / 2 ^ 63))))), (0, .ref o0), (1, .long (lN a)), (3, .long (lN e))] := by rw [← e9]; exact hl
  have hl := lv_sub (l' := [(0, .ref o0), (1, .long (lN a)), (3, .long (lN e)), (5, .long (lN (px_r p (px_pw a (e / 2 ^ 63))))), (7, .int (jm 63))]) hl [2, 3, 4, 1, 0] rfl
  exact loop 63 (Nat.le_refl 63) ls hl
