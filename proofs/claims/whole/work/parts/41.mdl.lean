/-! contracts of the model: its calls on polynomials, registers, channels, outputs; laid by a program -/
theorem in_ok {a t : Nat} (h : a < t) (ht : t < 2 ^ 31) : ¬ (nI a < 0 ∨ ¬ nI a < nI t) := fun z => z.elim (nI_nn (by omega)) (fun q => q ((nI_ltI (by omega) ht).mpr h))
theorem bl_turn (p i : Nat) : blen (p % 2 ^ (i + 1)) = if p / 2 ^ i % 2 = 1 then i + 1 else blen (p % 2 ^ i) := by
  have e : p % 2 ^ (i + 1) = p % 2 ^ i + 2 ^ i * (p / 2 ^ i % 2) := by
    rw [Nat.pow_succ, Nat.mod_mul]
  have hlt := Nat.mod_lt p (Nat.two_pow_pos i)
  split
  · rename_i h
    rw [h, Nat.mul_one] at e
    have h1 : p % 2 ^ (i + 1) < 2 ^ (i + 1) := Nat.mod_lt _ (Nat.two_pow_pos _)
    have hne : p % 2 ^ (i + 1) ≠ 0 := by have := Nat.two_pow_pos i; omega
    rw [blen_pos hne, px_lg (show 2 ^ i ≤ p % 2 ^ (i + 1) by omega) h1]
  · rename_i h
    have h0 : p / 2 ^ i % 2 = 0 := by omega
    rw [h0, Nat.mul_zero] at e
    rw [e]
    rfl
set_option maxHeartbeats 4000000 in
set_option maxRecDepth 100000 in
theorem c_O_isLine (l : Launch) (dC : Nat → ClassId) (dI : Nat → Nat → Nat) (cI cL : ClassId) (o0 g1 g2 g3 g4 g5 g6 g7 g8 : Nat) (fl p n vr ir od cc gc oc : Nat) (y : Int32) : Met l y_O_isLine w_O_isLine ({ frames := 0, cells := 0, slots := 0, locals := 0 } : Room) (va_Pc [.ref o0, .int y] (wq_R (dC, dI) classes [(o0, .inr (4, [.int (nI fl), .long (lN p), .int (nI n), .long (lN vr), .int (nI ir), .long (lN od), .int (nI cc), .ref g1, .int (nI gc), .ref g2, .ref g3, .ref g4, .int (nI oc), .ref g5, .ref g6, .ref g7, .ref g8]))] [(cI, .int), (cL, .long)])) (vp_Si (fun r => (r = 1 ∧ ¬ (y < 0 ∨ ¬ y < nI (cc + gc))) ∨ (r = 0 ∧ (y < 0 ∨ ¬ y < nI (cc + gc))))) 0 0 (fun _ => False) := by
  refine Met.ofW (cc := b_O_isLine) (maxL := 2) (ret := (Option.some Jvm.ClassFile.FieldType.boolean)) (by decide) rfl ?_
  intro pg en st mm ar bw me co s₁ B hml hv
  obtain ⟨rfl, hP, hK, hN⟩ := hv
  have hx := B.exec
  have hb := B.bytes
  have hr := B.returns
  have hlocks := B.notSynchronized
  have hts0 := atoms_spec (ws := w_O_isLine) B.pre
  have hts : ∀ w ∈ gw, w.before _ st = true := fun w h => hts0 w (List.mem_cons_of_mem _ h)
  have hown : st.vm.findClass R_O = some mm.cls := findClass_of_methodNamed B.named
  have hl := lv_entry ([.ref o0, .int y]) (n := 2) (Nat.le_of_ble_eq_true rfl)
  rw [lg_entry_eq]
  generalize (lg_sl ([.ref o0, .int y]) ++ List.replicate (2 - (lg_sl ([.ref o0, .int y])).length) Slot.unset).toArray = ls at hl ⊢
  have hl : lv_has ls 2 [(0, .ref o0), (1, .int y)] := hl
  refine lv_iload_n hx hb d_O_isLine_0 rfl (lv_at hl 1 rfl) ?_
  refine lv_if_lt (tgt := 21) hx hb d_O_isLine_1 (by decide) (fun h1 => ?_) (fun h1 => ?_)
  · refine lv_iconst (v := nI 0) hx hb d_O_isLine_21 (by decide) ?_
    exact W.zret (v := nI 0) hx hb hr (rfl) (fun t9 ht hW => ⟨nI 0, rfl, Or.inr ⟨rfl, Or.inl h1⟩, ht⟩) (fun _ h => nomatch h) d_O_isLine_22
  · refine lv_iload_n hx hb d_O_isLine_4 rfl (lv_at hl 1 rfl) ?_
    refine lv_aload_n hx hb d_O_isLine_5 rfl (lv_at hl 0 rfl) ?_
    refine va_get (D := (dC, dI)) (ci := 4) (v := .int (nI cc)) (C := R_O) (T := F_O) (N := 17) hx hb hts in_O hown hK hP 0 rfl rfl 6 (by decide) (hts _ kw_534) (fun _ h9 => h9) rfl d_O_isLine_6 ?_
    refine lv_aload_n hx hb d_O_isLine_9 rfl (lv_at hl 0 rfl) ?_
    refine va_get (D := (dC, dI)) (ci := 4) (v := .int (nI gc)) (C := R_O) (T := F_O) (N := 17) hx hb hts in_O hown hK hP 0 rfl rfl 8 (by decide) (hts _ kw_536) (fun _ h9 => h9) rfl d_O_isLine_10 ?_
    refine lv_iadd hx hb d_O_isLine_13 ?_
    refine lv_topi (nm_r (show _ = nI (cc + gc) from nI_add cc gc) ?_)
    refine lv_icmp_ge (tgt := 21) hx hb d_O_isLine_14 (by decide) (fun h2 => ?_) (fun h2 => ?_)
    · refine lv_iconst (v := nI 0) hx hb d_O_isLine_21 (by decide) ?_
      exact W.zret (v := nI 0) hx hb hr (rfl) (fun t9 ht hW => ⟨nI 0, rfl, Or.inr ⟨rfl, Or.inr (fun z => absurd h2 (Int32.not_le.mpr z))⟩, ht⟩) (fun _ h => nomatch h) d_O_isLine_22
    · refine lv_iconst (v := nI 1) hx hb d_O_isLine_17 (by decide) ?_
      refine lv_goto (tgt := 22) hx hb d_O_isLine_18 (by decide) ?_
      exact W.zret (v := nI 1) hx hb hr (rfl) (fun t9 ht hW => ⟨nI 1, rfl, Or.inl ⟨rfl, fun z => z.elim h1 (fun q => q (Int32.not_le.mp h2))⟩, ht⟩) (fun _ h => nomatch h) d_O_isLine_22
set_option maxHeartbeats 4000000 in
set_option maxRecDepth 100000 in
theorem c_O_isFault (l : Launch) (dC : Nat → ClassId) (dI : Nat → Nat → Nat) (cI cL : ClassId) (o0 g1 g2 g3 g4 g5 g6 g7 g8 : Nat) (fl p n vr ir od cc gc oc : Nat) (y : Int32) : Met l y_O_isFault w_O_isFault ({ frames := 0, cells := 0, slots := 0, locals := 0 } : Room) (va_Pc [.ref o0, .int y] (wq_R (dC, dI) classes [(o0, .inr (4, [.int (nI fl), .long (lN p), .int (nI n), .long (lN vr), .int (nI ir), .long (lN od), .int (nI cc), .ref g1, .int (nI gc), .ref g2, .ref g3, .ref g4, .int (nI oc), .ref g5, .ref g6, .ref g7, .ref g8]))] [(cI, .int), (cL, .long)])) (vp_Si (fun r => (r = 1 ∧ ¬ (y < 0 ∨ ¬ y < nI (2 * (cc + gc)))) ∨ (r = 0 ∧ (y < 0 ∨ ¬ y < nI (2 * (cc + gc)))))) 0 0 (fun _ => False) := by
  refine Met.ofW (cc := b_O_isFault) (maxL := 2) (ret := (Option.some Jvm.ClassFile.FieldType.boolean)) (by decide) rfl ?_
  intro pg en st mm ar bw me co s₁ B hml hv
  obtain ⟨rfl, hP, hK, hN⟩ := hv
  have hx := B.exec
  have hb := B.bytes
  have hr := B.returns
  have hlocks := B.notSynchronized
  have hts0 := atoms_spec (ws := w_O_isFault) B.pre
  have hts : ∀ w ∈ gw, w.before _ st = true := fun w h => hts0 w (List.mem_cons_of_mem _ h)
  have hown : st.vm.findClass R_O = some mm.cls := findClass_of_methodNamed B.named
  have hl := lv_entry ([.ref o0, .int y]) (n := 2) (Nat.le_of_ble_eq_true rfl)
  rw [lg_entry_eq]
  generalize (lg_sl ([.ref o0, .int y]) ++ List.replicate (2 - (lg_sl ([.ref o0, .int y])).length) Slot.unset).toArray = ls at hl ⊢
  have hl : lv_has ls 2 [(0, .ref o0), (1, .int y)] := hl
  refine lv_iload_n hx hb d_O_isFault_0 rfl (lv_at hl 1 rfl) ?_
  refine lv_if_lt (tgt := 23) hx hb d_O_isFault_1 (by decide) (fun h1 => ?_) (fun h1 => ?_)
  · refine lv_iconst (v := nI 0) hx hb d_O_isFault_23 (by decide) ?_
    exact W.zret (v := nI 0) hx hb hr (rfl) (fun t9 ht hW => ⟨nI 0, rfl, Or.inr ⟨rfl, Or.inl h1⟩, ht⟩) (fun _ h => nomatch h) d_O_isFault_24
  · refine lv_iload_n hx hb d_O_isFault_4 rfl (lv_at hl 1 rfl) ?_
    refine lv_iconst (v := nI 2) hx hb d_O_isFault_5 (by decide) ?_
    refine lv_aload_n hx hb d_O_isFault_6 rfl (lv_at hl 0 rfl) ?_
    refine va_get (D := (dC, dI)) (ci := 4) (v := .int (nI cc)) (C := R_O) (T := F_O) (N := 17) hx hb hts in_O hown hK hP 0 rfl rfl 6 (by decide) (hts _ kw_534) (fun _ h9 => h9) rfl d_O_isFault_7 ?_
    refine lv_aload_n hx hb d_O_isFault_10 rfl (lv_at hl 0 rfl) ?_
    refine va_get (D := (dC, dI)) (ci := 4) (v := .int (nI gc)) (C := R_O) (T := F_O) (N := 17) hx hb hts in_O hown hK hP 0 rfl rfl 8 (by decide) (hts _ kw_536) (fun _ h9 => h9) rfl d_O_isFault_11 ?_
    refine lv_iadd hx hb d_O_isFault_14 ?_
    refine lv_topi (nm_r (show _ = nI (cc + gc) from nI_add cc gc) ?_)
    refine lv_imul hx hb d_O_isFault_15 ?_
    refine lv_topi (nm_r (show _ = nI (2 * (cc + gc)) from pk_mul 2 (cc + gc)) ?_)
    refine lv_icmp_ge (tgt := 23) hx hb d_O_isFault_16 (by decide) (fun h2 => ?_) (fun h2 => ?_)
    · refine lv_iconst (v := nI 0) hx hb d_O_isFault_23 (by decide) ?_
      exact W.zret (v := nI 0) hx hb hr (rfl) (fun t9 ht hW => ⟨nI 0, rfl, Or.inr ⟨rfl, Or.inr (fun z => absurd h2 (Int32.not_le.mpr z))⟩, ht⟩) (fun _ h => nomatch h) d_O_isFault_24
    · refine lv_iconst (v := nI 1) hx hb d_O_isFault_19 (by decide) ?_
      refine lv_goto (tgt := 24) hx hb d_O_isFault_20 (by decide) ?_
      exact W.zret (v := nI 1) hx hb hr (rfl) (fun t9 ht hW => ⟨nI 1, rfl, Or.inl ⟨rfl, fun z => z.elim h1 (fun q => q (Int32.not_le.mp h2))⟩, ht⟩) (fun _ h => nomatch h) d_O_isFault_24
set_option maxHeartbeats 4000000 in
set_option maxRecDepth 100000 in
theorem c_O_isCount (l : Launch) (y : Int32) : Met l y_O_isCount w_O_isCount ({ frames := 0, cells := 0, slots := 0, locals := 0 } : Room) (va_Pc [.int y] (fun _ => True)) (vp_Si (fun r => (r = 1 ∧ ¬ (y < 0 ∨ ¬ y ≤ nI 256)) ∨ (r = 0 ∧ (y < 0 ∨ ¬ y ≤ nI 256)))) 0 0 (fun _ => False) := by
  refine Met.ofW (cc := b_O_isCount) (maxL := 1) (ret := (Option.some Jvm.ClassFile.FieldType.boolean)) (by decide) rfl ?_
  intro pg en st mm ar bw me co s₁ B hml hv
  obtain ⟨rfl, -⟩ := hv
  have hx := B.exec
  have hb := B.bytes
  have hr := B.returns
  have hlocks := B.notSynchronized
  have hts0 := atoms_spec (ws := w_O_isCount) B.pre
  have hts : ∀ w ∈ gw, w.before _ st = true := fun w h => hts0 w (List.mem_cons_of_mem _ h)
  have hown : st.vm.findClass R_O = some mm.cls := findClass_of_methodNamed B.named
  have hl := lv_entry ([.int y]) (n := 1) (Nat.le_of_ble_eq_true rfl)
  rw [lg_entry_eq]
  generalize (lg_sl ([.int y]) ++ List.replicate (1 - (lg_sl ([.int y])).length) Slot.unset).toArray = ls at hl ⊢
  have hl : lv_has ls 1 [(0, .int y)] := hl
  refine lv_iload_n hx hb d_O_isCount_0 rfl (lv_at hl 0 rfl) ?_
  refine lv_if_lt (tgt := 15) hx hb d_O_isCount_1 (by decide) (fun h1 => ?_) (fun h1 => ?_)
  · refine lv_iconst (v := nI 0) hx hb d_O_isCount_15 (by decide) ?_
    exact W.zret (v := nI 0) hx hb hr (rfl) (fun t9 ht hW => ⟨nI 0, rfl, Or.inr ⟨rfl, Or.inl h1⟩, ht⟩) (fun _ h => nomatch h) d_O_isCount_16
  · refine lv_iload_n hx hb d_O_isCount_4 rfl (lv_at hl 0 rfl) ?_
    refine lv_sipush (v := nI 256) hx hb d_O_isCount_5 (by decide) ?_
    refine lv_icmp_gt (tgt := 15) hx hb d_O_isCount_8 (by decide) (fun h2 => ?_) (fun h2 => ?_)
    · refine lv_iconst (v := nI 0) hx hb d_O_isCount_15 (by decide) ?_
      exact W.zret (v := nI 0) hx hb hr (rfl) (fun t9 ht hW => ⟨nI 0, rfl, Or.inr ⟨rfl, Or.inr (fun z => absurd h2 (Int32.not_lt.mpr z))⟩, ht⟩) (fun _ h => nomatch h) d_O_isCount_16
    · refine lv_iconst (v := nI 1) hx hb d_O_isCount_11 (by decide) ?_
      refine lv_goto (tgt := 16) hx hb d_O_isCount_12 (by decide) ?_
      exact W.zret (v := nI 1) hx hb hr (rfl) (fun t9 ht hW => ⟨nI 1, rfl, Or.inl ⟨rfl, fun z => z.elim h1 (fun q => q (Int32.not_lt.mp h2))⟩, ht⟩) (fun _ h => nomatch h) d_O_isCount_16
set_option maxHeartbeats 4000000 in
set_option maxRecDepth 100000 in
theorem c_O_timesY (l : Launch) (dC : Nat → ClassId) (dI : Nat → Nat → Nat) (cI cL : ClassId) (sz : Nat) (o0 g1 g2 g3 g4 g5 g6 g7 g8 : Nat) (fl p n vr ir od cc gc oc : Nat) (hm : md p n) (a b : Nat) (ha : a < 2 ^ n) (hb2 : b < 2 ^ n) : Met l y_O_times w_O_times ({ frames := 2, cells := 0, slots := 0, locals := 51 } : Room) (va_Pc [.ref o0, .long (lN a), .long (lN b)] (wq_W (dC, dI) classes [(o0, .inr (4, [.int (nI fl), .long (lN p), .int (nI n), .long (lN vr), .int (nI ir), .long (lN od), .int (nI cc), .ref g1, .int (nI gc), .ref g2, .ref g3, .ref g4, .int (nI oc), .ref g5, .ref g6, .ref g7, .ref g8]))] [(cI, .int), (cL, .long)] sz)) (va_Ql (fun (r : Int64) (u : Unit) => r = lN (px_r p (px_m a b))) (fun (u : Unit) t => wq_B (dC, dI) classes [(cI, .int), (cL, .long)] (va_A [(o0, .inr (4, [.int (nI fl), .long (lN p), .int (nI n), .long (lN vr), .int (nI ir), .long (lN od), .int (nI cc), .ref g1, .int (nI gc), .ref g2, .ref g3, .ref g4, .int (nI oc), .ref g5, .ref g6, .ref g7, .ref g8]))] sz) [(o0, .inr (4, [.int (nI 0), .long (lN p), .int (nI n), .long (lN vr), .int (nI ir), .long (lN od), .int (nI cc), .ref g1, .int (nI gc), .ref g2, .ref g3, .ref g4, .int (nI oc), .ref g5, .ref g6, .ref g7, .ref g8]))] t) (va_A [(o0, .inr (4, [.int (nI fl), .long (lN p), .int (nI n), .long (lN vr), .int (nI ir), .long (lN od), .int (nI cc), .ref g1, .int (nI gc), .ref g2, .ref g3, .ref g4, .int (nI oc), .ref g5, .ref g6, .ref g7, .ref g8]))] sz)) 0 0 (va_A [(o0, .inr (4, [.int (nI fl), .long (lN p), .int (nI n), .long (lN vr), .int (nI ir), .long (lN od), .int (nI cc), .ref g1, .int (nI gc), .ref g2, .ref g3, .ref g4, .int (nI oc), .ref g5, .ref g6, .ref g7, .ref g8]))] sz) := by
  refine Met.ofW (cc := b_O_times) (maxL := 5) (ret := (Option.some Jvm.ClassFile.FieldType.long)) (by decide) rfl ?_
  intro pg en st mm ar bw me co s₁ B hml hv
  obtain ⟨rfl, hsz, hP, hK, hD0, hN⟩ := hv
  have hx := B.exec
  have hb := B.bytes
  have hr := B.returns
  have hlocks := B.notSynchronized
  have hts0 := atoms_spec (ws := w_O_times) B.pre
  have hts : ∀ w ∈ gw, w.before _ st = true := fun w h => hts0 w (List.mem_cons_of_mem _ h)
  have hown : st.vm.findClass R_O = some mm.cls := findClass_of_methodNamed B.named
  subst hsz
  have hD := hD0.self (sz := st.heap.size)
  generalize hAe : va_A [(o0, .inr (4, [.int (nI fl), .long (lN p), .int (nI n), .long (lN vr), .int (nI ir), .long (lN od), .int (nI cc), .ref g1, .int (nI gc), .ref g2, .ref g3, .ref g4, .int (nI oc), .ref g5, .ref g6, .ref g7, .ref g8]))] st.heap.size = A at hD ⊢
  have hA : ∀ q : Nat, st.heap.size ≤ q → A q := fun q h => by rw [← hAe]; exact Or.inr h
  have hS : va_S A st.heap st.heap [] := va_S.rf
  have hl := lv_entry ([.ref o0, .long (lN a), .long (lN b)]) (n := 5) (Nat.le_of_ble_eq_true rfl)
  rw [lg_entry_eq]
  generalize (lg_sl ([.ref o0, .long (lN a), .long (lN b)]) ++ List.replicate (5 - (lg_sl ([.ref o0, .long (lN a), .long (lN b)])).length) Slot.unset).toArray = ls at hl ⊢
  have hl : lv_has ls 5 [(0, .ref o0), (1, .long (lN a)), (3, .long (lN b))] := hl
  refine lv_aload_n hx hb d_O_times_0 rfl (lv_at hl 0 rfl) ?_
  refine lv_aload_n hx hb d_O_times_1 rfl (lv_at hl 0 rfl) ?_
  refine lv_lload_n hx hb d_O_times_2 rfl (lv_at hl 1 rfl) ?_
  refine vp_callSi (va_Run.run (va_runV (As := [.long (lN a)]) (rest := [.ref o0]) ⟨hx, hb, hml, hown, hts⟩ (c_O_isResidue l dC dI cI cL o0 g1 g2 g3 g4 g5 g6 g7 g8 fl p n vr ir od cc gc oc hm a (by have := res_lt hm ha; omega)) (cwV 1 hts (gi_V kw_600 kw_602 ks_O_isResidue kw_5 gi_O_isResidue) rfl rfl rfl ⟨rfl, by decide, by decide, by decide⟩ ⟨Nat.le_of_ble_eq_true rfl, Nat.le_of_ble_eq_true rfl⟩) (wq_preVR hP hK hN [0] rfl (q0 := 0) (ci := 4) rfl rfl rfl) rfl rfl hl.1 rfl (lv_room (Nat.le_of_ble_eq_true rfl)) d_O_times_3 ⟨Nat.le_of_ble_eq_true rfl, Nat.le_of_ble_eq_true rfl⟩)) (fun r hq => ?_)
  rw [if_pos ha] at hq
  subst hq
  refine lv_if_eq (tgt := 21) hx hb d_O_times_6 (by decide) (fun hc => absurd hc (show ¬ (1 : Int32) = 0 from by decide)) (fun _ => ?_)
  refine lv_aload_n hx hb d_O_times_9 rfl (lv_at hl 0 rfl) ?_
  refine lv_lload_n hx hb d_O_times_10 rfl (lv_at hl 2 rfl) ?_
  refine vp_callSi (va_Run.run (va_runV (As := [.long (lN b)]) (rest := [.ref o0]) ⟨hx, hb, hml, hown, hts⟩ (c_O_isResidue l dC dI cI cL o0 g1 g2 g3 g4 g5 g6 g7 g8 fl p n vr ir od cc gc oc hm b (by have := res_lt hm hb2; omega)) (cwV 1 hts (gi_V kw_600 kw_602 ks_O_isResidue kw_5 gi_O_isResidue) rfl rfl rfl ⟨rfl, by decide, by decide, by decide⟩ ⟨Nat.le_of_ble_eq_true rfl, Nat.le_of_ble_eq_true rfl⟩) (wq_preVR hP hK hN [0] rfl (q0 := 0) (ci := 4) rfl rfl rfl) rfl rfl hl.1 rfl (lv_room (Nat.le_of_ble_eq_true rfl)) d_O_times_11 ⟨Nat.le_of_ble_eq_true rfl, Nat.le_of_ble_eq_true rfl⟩)) (fun r hq => ?_)
  rw [if_pos hb2] at hq
  subst hq
  refine lv_if_eq (tgt := 21) hx hb d_O_times_14 (by decide) (fun hc => absurd hc (show ¬ (1 : Int32) = 0 from by decide)) (fun _ => ?_)
  refine lv_iconst (v := nI 0) hx hb d_O_times_17 (by decide) ?_
  refine lv_goto (tgt := 22) hx hb d_O_times_18 (by decide) ?_
  refine wq_i (wr := []) (va_runV (As := [.int (nI 0)]) (rest := []) ⟨hx, hb, hml, hown, hts⟩ (c_O_refused0 l dC dI cI cL st.heap.size o0 g1 g2 g3 g4 g5 g6 g7 g8 fl p n vr ir od cc gc oc) (cwV 1 hts (gi_V kw_588 kw_590 ks_O_refused kw_5 gi_O_refused) rfl rfl rfl ⟨rfl, by decide, by decide, by decide⟩ ⟨Nat.le_of_ble_eq_true rfl, Nat.le_of_ble_eq_true rfl⟩) (wq_preVW hP hD hK hN [0] rfl rfl (q0 := 0) (ci := 4) rfl rfl rfl) rfl rfl hl.1 rfl (lv_room (Nat.le_of_ble_eq_true rfl)) d_O_times_22 ⟨Nat.le_of_ble_eq_true rfl, Nat.le_of_ble_eq_true rfl⟩) hP hD hS hA [0] [] rfl rfl rfl (by decide) (fun r u H locs hq hP hD hS hz => ?_)
  have hP : va_P (dC, dI) classes [(o0, .inr (4, [.int (nI 0), .long (lN p), .int (nI n), .long (lN vr), .int (nI ir), .long (lN od), .int (nI cc), .ref g1, .int (nI gc), .ref g2, .ref g3, .ref g4, .int (nI oc), .ref g5, .ref g6, .ref g7, .ref g8]))] H := hP
  have hD : va_D A [(o0, .inr (4, [.int (nI 0), .long (lN p), .int (nI n), .long (lN vr), .int (nI ir), .long (lN od), .int (nI cc), .ref g1, .int (nI gc), .ref g2, .ref g3, .ref g4, .int (nI oc), .ref g5, .ref g6, .ref g7, .ref g8]))] := hD
  subst hq
  refine lv_if_eq (tgt := 32) hx hb d_O_times_25 (by decide) (fun _ => ?_) (fun hc => absurd hc (fun z => z rfl))
  refine lv_aload_n hx hb d_O_times_32 rfl (lv_at hl 0 rfl) ?_
  refine lv_lload_n hx hb d_O_times_33 rfl (lv_at hl 1 rfl) ?_
  refine lv_lload_n hx hb d_O_times_34 rfl (lv_at hl 2 rfl) ?_
  refine vp_callSl (va_Run.run (va_runV (As := [.long (lN a), .long (lN b)]) (rest := []) ⟨hx, hb, hml, hown, hts⟩ (c_O_product l dC dI cI cL o0 g1 g2 g3 g4 g5 g6 g7 g8 0 p n vr ir od cc gc oc hm a b ha hb2) (cwV 2 hts (gi_V kw_604 kw_606 ks_O_product kw_5 gi_O_product) rfl rfl rfl ⟨rfl, by decide, by decide, by decide⟩ ⟨Nat.le_of_ble_eq_true rfl, Nat.le_of_ble_eq_true rfl⟩) (wq_preVR hP hK hN [0] rfl (q0 := 0) (ci := 4) rfl rfl rfl) rfl rfl hl.1 rfl (lv_room (Nat.le_of_ble_eq_true rfl)) d_O_times_35 ⟨Nat.le_of_ble_eq_true rfl, Nat.le_of_ble_eq_true rfl⟩)) (fun r hq => ?_)
  subst hq
  have hP := hP.sub (ws' := [(o0, .inr (4, [.int (nI 0), .long (lN p), .int (nI n), .long (lN vr), .int (nI ir), .long (lN od), .int (nI cc), .ref g1, .int (nI gc), .ref g2, .ref g3, .ref g4, .int (nI oc), .ref g5, .ref g6, .ref g7, .ref g8]))]) [0] rfl
  have hD := hD.sub (ws' := [(o0, .inr (4, [.int (nI 0), .long (lN p), .int (nI n), .long (lN vr), .int (nI ir), .long (lN od), .int (nI cc), .ref g1, .int (nI gc), .ref g2, .ref g3, .ref g4, .int (nI oc), .ref g5, .ref g6, .ref g7, .ref g8]))]) [0] (by decide) rfl
  exact W.lret (v := lN (px_r p (px_m a b))) hx hb hr (fun t9 ht hW => ⟨⟨lN (px_r p (px_m a b)), (), rfl, rfl, by rw [ht]; exact hP, va_K.moved hW.alike hK, hD⟩, hS.F ht⟩) hS.2.2 d_O_times_38
set_option maxHeartbeats 4000000 in
set_option maxRecDepth 100000 in
theorem c_O_timesN (l : Launch) (dC : Nat → ClassId) (dI : Nat → Nat → Nat) (cI cL : ClassId) (sz : Nat) (o0 g1 g2 g3 g4 g5 g6 g7 g8 : Nat) (fl p n vr ir od cc gc oc : Nat) (hm : md p n) (a b : Nat) (ha2 : a < 2 ^ 64) (hb2 : b < 2 ^ 64) (hno : ¬ (a < 2 ^ n ∧ b < 2 ^ n)) : Met l y_O_times w_O_times ({ frames := 2, cells := 0, slots := 0, locals := 51 } : Room) (va_Pc [.ref o0, .long (lN a), .long (lN b)] (wq_W (dC, dI) classes [(o0, .inr (4, [.int (nI fl), .long (lN p), .int (nI n), .long (lN vr), .int (nI ir), .long (lN od), .int (nI cc), .ref g1, .int (nI gc), .ref g2, .ref g3, .ref g4, .int (nI oc), .ref g5, .ref g6, .ref g7, .ref g8]))] [(cI, .int), (cL, .long)] sz)) (va_Ql (fun (r : Int64) (u : Unit) => r = lN 0) (fun (u : Unit) t => wq_B (dC, dI) classes [(cI, .int), (cL, .long)] (va_A [(o0, .inr (4, [.int (nI fl), .long (lN p), .int (nI n), .long (lN vr), .int (nI ir), .long (lN od), .int (nI cc), .ref g1, .int (nI gc), .ref g2, .ref g3, .ref g4, .int (nI oc), .ref g5, .ref g6, .ref g7, .ref g8]))] sz) [(o0, .inr (4, [.int (nI 1), .long (lN p), .int (nI n), .long (lN vr), .int (nI ir), .long (lN od), .int (nI cc), .ref g1, .int (nI gc), .ref g2, .ref g3, .ref g4, .int (nI oc), .ref g5, .ref g6, .ref g7, .ref g8]))] t) (va_A [(o0, .inr (4, [.int (nI fl), .long (lN p), .int (nI n), .long (lN vr), .int (nI ir), .long (lN od), .int (nI cc), .ref g1, .int (nI gc), .ref g2, .ref g3, .ref g4, .int (nI oc), .ref g5, .ref g6, .ref g7, .ref g8]))] sz)) 0 0 (va_A [(o0, .inr (4, [.int (nI fl), .long (lN p), .int (nI n), .long (lN vr), .int (nI ir), .long (lN od), .int (nI cc), .ref g1, .int (nI gc), .ref g2, .ref g3, .ref g4, .int (nI oc), .ref g5, .ref g6, .ref g7, .ref g8]))] sz) := by
  refine Met.ofW (cc := b_O_times) (maxL := 5) (ret := (Option.some Jvm.ClassFile.FieldType.long)) (by decide) rfl ?_
  intro pg en st mm ar bw me co s₁ B hml hv
  obtain ⟨rfl, hsz, hP, hK, hD0, hN⟩ := hv
  have hx := B.exec
  have hb := B.bytes
  have hr := B.returns
  have hlocks := B.notSynchronized
  have hts0 := atoms_spec (ws := w_O_times) B.pre
  have hts : ∀ w ∈ gw, w.before _ st = true := fun w h => hts0 w (List.mem_cons_of_mem _ h)
  have hown : st.vm.findClass R_O = some mm.cls := findClass_of_methodNamed B.named
  subst hsz
  have hD := hD0.self (sz := st.heap.size)
  generalize hAe : va_A [(o0, .inr (4, [.int (nI fl), .long (lN p), .int (nI n), .long (lN vr), .int (nI ir), .long (lN od), .int (nI cc), .ref g1, .int (nI gc), .ref g2, .ref g3, .ref g4, .int (nI oc), .ref g5, .ref g6, .ref g7, .ref g8]))] st.heap.size = A at hD ⊢
  have hA : ∀ q : Nat, st.heap.size ≤ q → A q := fun q h => by rw [← hAe]; exact Or.inr h
  have hS : va_S A st.heap st.heap [] := va_S.rf
  have hl := lv_entry ([.ref o0, .long (lN a), .long (lN b)]) (n := 5) (Nat.le_of_ble_eq_true rfl)
  rw [lg_entry_eq]
  generalize (lg_sl ([.ref o0, .long (lN a), .long (lN b)]) ++ List.replicate (5 - (lg_sl ([.ref o0, .long (lN a), .long (lN b)])).length) Slot.unset).toArray = ls at hl ⊢
  have hl : lv_has ls 5 [(0, .ref o0), (1, .long (lN a)), (3, .long (lN b))] := hl
  refine lv_aload_n hx hb d_O_times_0 rfl (lv_at hl 0 rfl) ?_
  refine lv_aload_n hx hb d_O_times_1 rfl (lv_at hl 0 rfl) ?_
  refine lv_lload_n hx hb d_O_times_2 rfl (lv_at hl 1 rfl) ?_
  by_cases ha : a < 2 ^ n
  · refine vp_callSi (va_Run.run (va_runV (As := [.long (lN a)]) (rest := [.ref o0]) ⟨hx, hb, hml, hown, hts⟩ (c_O_isResidue l dC dI cI cL o0 g1 g2 g3 g4 g5 g6 g7 g8 fl p n vr ir od cc gc oc hm a (by have := res_lt hm ha; omega)) (cwV 1 hts (gi_V kw_600 kw_602 ks_O_isResidue kw_5 gi_O_isResidue) rfl rfl rfl ⟨rfl, by decide, by decide, by decide⟩ ⟨Nat.le_of_ble_eq_true rfl, Nat.le_of_ble_eq_true rfl⟩) (wq_preVR hP hK hN [0] rfl (q0 := 0) (ci := 4) rfl rfl rfl) rfl rfl hl.1 rfl (lv_room (Nat.le_of_ble_eq_true rfl)) d_O_times_3 ⟨Nat.le_of_ble_eq_true rfl, Nat.le_of_ble_eq_true rfl⟩)) (fun r hq => ?_)
    rw [if_pos ha] at hq
    subst hq
    refine lv_if_eq (tgt := 21) hx hb d_O_times_6 (by decide) (fun hc => absurd hc (show ¬ (1 : Int32) = 0 from by decide)) (fun _ => ?_)
    refine lv_aload_n hx hb d_O_times_9 rfl (lv_at hl 0 rfl) ?_
    refine lv_lload_n hx hb d_O_times_10 rfl (lv_at hl 2 rfl) ?_
    refine vp_callSi (va_Run.run (va_runV (As := [.long (lN b)]) (rest := [.ref o0]) ⟨hx, hb, hml, hown, hts⟩ (c_O_isResidue l dC dI cI cL o0 g1 g2 g3 g4 g5 g6 g7 g8 fl p n vr ir od cc gc oc hm b hb2) (cwV 1 hts (gi_V kw_600 kw_602 ks_O_isResidue kw_5 gi_O_isResidue) rfl rfl rfl ⟨rfl, by decide, by decide, by decide⟩ ⟨Nat.le_of_ble_eq_true rfl, Nat.le_of_ble_eq_true rfl⟩) (wq_preVR hP hK hN [0] rfl (q0 := 0) (ci := 4) rfl rfl rfl) rfl rfl hl.1 rfl (lv_room (Nat.le_of_ble_eq_true rfl)) d_O_times_11 ⟨Nat.le_of_ble_eq_true rfl, Nat.le_of_ble_eq_true rfl⟩)) (fun r hq => ?_)
    rw [if_neg (fun z => hno ⟨ha, z⟩)] at hq
    subst hq
    refine lv_if_eq (tgt := 21) hx hb d_O_times_14 (by decide) (fun _ => ?_) (fun hc => absurd hc (fun z => z rfl))
    refine lv_iconst (v := nI 1) hx hb d_O_times_21 (by decide) ?_
    refine wq_i (wr := []) (va_runV (As := [.int (nI 1)]) (rest := []) ⟨hx, hb, hml, hown, hts⟩ (c_O_refusedK l dC dI cI cL st.heap.size o0 g1 g2 g3 g4 g5 g6 g7 g8 fl p n vr ir od cc gc oc 1 (by decide) (by decide)) (cwV 1 hts (gi_V kw_588 kw_590 ks_O_refused kw_5 gi_O_refused) rfl rfl rfl ⟨rfl, by decide, by decide, by decide⟩ ⟨Nat.le_of_ble_eq_true rfl, Nat.le_of_ble_eq_true rfl⟩) (wq_preVW hP hD hK hN [0] rfl rfl (q0 := 0) (ci := 4) rfl rfl rfl) rfl rfl hl.1 rfl (lv_room (Nat.le_of_ble_eq_true rfl)) d_O_times_22 ⟨Nat.le_of_ble_eq_true rfl, Nat.le_of_ble_eq_true rfl⟩) hP hD hS hA [0] [] rfl rfl rfl (by decide) (fun r u H locs hq hP hD hS hz => ?_)
    have hP : va_P (dC, dI) classes [(o0, .inr (4, [.int (nI 1), .long (lN p), .int (nI n), .long (lN vr), .int (nI ir), .long (lN od), .int (nI cc), .ref g1, .int (nI gc), .ref g2, .ref g3, .ref g4, .int (nI oc), .ref g5, .ref g6, .ref g7, .ref g8]))] H := hP
    have hD : va_D A [(o0, .inr (4, [.int (nI 1), .long (lN p), .int (nI n), .long (lN vr), .int (nI ir), .long (lN od), .int (nI cc), .ref g1, .int (nI gc), .ref g2, .ref g3, .ref g4, .int (nI oc), .ref g5, .ref g6, .ref g7, .ref g8]))] := hD
    subst hq
    refine lv_if_eq (tgt := 32) hx hb d_O_times_25 (by decide) (fun hc => absurd hc (show ¬ (1 : Int32) = 0 from by decide)) (fun _ => ?_)
    refine lv_lconst (v := lN 0) hx hb d_O_times_28 (by decide) ?_
    refine lv_goto (tgt := 38) hx hb d_O_times_29 (by decide) ?_
    have hP := hP.sub (ws' := [(o0, .inr (4, [.int (nI 1), .long (lN p), .int (nI n), .long (lN vr), .int (nI ir), .long (lN od), .int (nI cc), .ref g1, .int (nI gc), .ref g2, .ref g3, .ref g4, .int (nI oc), .ref g5, .ref g6, .ref g7, .ref g8]))]) [0] rfl
    have hD := hD.sub (ws' := [(o0, .inr (4, [.int (nI 1), .long (lN p), .int (nI n), .long (lN vr), .int (nI ir), .long (lN od), .int (nI cc), .ref g1, .int (nI gc), .ref g2, .ref g3, .ref g4, .int (nI oc), .ref g5, .ref g6, .ref g7, .ref g8]))]) [0] (by decide) rfl
    exact W.lret (v := lN 0) hx hb hr (fun t9 ht hW => ⟨⟨lN 0, (), rfl, rfl, by rw [ht]; exact hP, va_K.moved hW.alike hK, hD⟩, hS.F ht⟩) hS.2.2 d_O_times_38
  · refine vp_callSi (va_Run.run (va_runV (As := [.long (lN a)]) (rest := [.ref o0]) ⟨hx, hb, hml, hown, hts⟩ (c_O_isResidue l dC dI cI cL o0 g1 g2 g3 g4 g5 g6 g7 g8 fl p n vr ir od cc gc oc hm a ha2) (cwV 1 hts (gi_V kw_600 kw_602 ks_O_isResidue kw_5 gi_O_isResidue) rfl rfl rfl ⟨rfl, by decide, by decide, by decide⟩ ⟨Nat.le_of_ble_eq_true rfl, Nat.le_of_ble_eq_true rfl⟩) (wq_preVR hP hK hN [0] rfl (q0 := 0) (ci := 4) rfl rfl rfl) rfl rfl hl.1 rfl (lv_room (Nat.le_of_ble_eq_true rfl)) d_O_times_3 ⟨Nat.le_of_ble_eq_true rfl, Nat.le_of_ble_eq_true rfl⟩)) (fun r hq => ?_)
    rw [if_neg ha] at hq
    subst hq
    refine lv_if_eq (tgt := 21) hx hb d_O_times_6 (by decide) (fun _ => ?_) (fun hc => absurd hc (fun z => z rfl))
    refine lv_iconst (v := nI 1) hx hb d_O_times_21 (by decide) ?_
    refine wq_i (wr := []) (va_runV (As := [.int (nI 1)]) (rest := []) ⟨hx, hb, hml, hown, hts⟩ (c_O_refusedK l dC dI cI cL st.heap.size o0 g1 g2 g3 g4 g5 g6 g7 g8 fl p n vr ir od cc gc oc 1 (by decide) (by decide)) (cwV 1 hts (gi_V kw_588 kw_590 ks_O_refused kw_5 gi_O_refused) rfl rfl rfl ⟨rfl, by decide, by decide, by decide⟩ ⟨Nat.le_of_ble_eq_true rfl, Nat.le_of_ble_eq_true rfl⟩) (wq_preVW hP hD hK hN [0] rfl rfl (q0 := 0) (ci := 4) rfl rfl rfl) rfl rfl hl.1 rfl (lv_room (Nat.le_of_ble_eq_true rfl)) d_O_times_22 ⟨Nat.le_of_ble_eq_true rfl, Nat.le_of_ble_eq_true rfl⟩) hP hD hS hA [0] [] rfl rfl rfl (by decide) (fun r u H locs hq hP hD hS hz => ?_)
    have hP : va_P (dC, dI) classes [(o0, .inr (4, [.int (nI 1), .long (lN p), .int (nI n), .long (lN vr), .int (nI ir), .long (lN od), .int (nI cc), .ref g1, .int (nI gc), .ref g2, .ref g3, .ref g4, .int (nI oc), .ref g5, .ref g6, .ref g7, .ref g8]))] H := hP
    have hD : va_D A [(o0, .inr (4, [.int (nI 1), .long (lN p), .int (nI n), .long (lN vr), .int (nI ir), .long (lN od), .int (nI cc), .ref g1, .int (nI gc), .ref g2, .ref g3, .ref g4, .int (nI oc), .ref g5, .ref g6, .ref g7, .ref g8]))] := hD
    subst hq
    refine lv_if_eq (tgt := 32) hx hb d_O_times_25 (by decide) (fun hc => absurd hc (show ¬ (1 : Int32) = 0 from by decide)) (fun _ => ?_)
    refine lv_lconst (v := lN 0) hx hb d_O_times_28 (by decide) ?_
    refine lv_goto (tgt := 38) hx hb d_O_times_29 (by decide) ?_
    have hP := hP.sub (ws' := [(o0, .inr (4, [.int (nI 1), .long (lN p), .int (nI n), .long (lN vr), .int (nI ir), .long (lN od), .int (nI cc), .ref g1, .int (nI gc), .ref g2, .ref g3, .ref g4, .int (nI oc), .ref g5, .ref g6, .ref g7, .ref g8]))]) [0] rfl
    have hD := hD.sub (ws' := [(o0, .inr (4, [.int (nI 1), .long (lN p), .int (nI n), .long (lN vr), .int (nI ir), .long (lN od), .int (nI cc), .ref g1, .int (nI gc), .ref g2, .ref g3, .ref g4, .int (nI oc), .ref g5, .ref g6, .ref g7, .ref g8]))]) [0] (by decide) rfl
    exact W.lret (v := lN 0) hx hb hr (fun t9 ht hW => ⟨⟨lN 0, (), rfl, rfl, by rw [ht]; exact hP, va_K.moved hW.alike hK, hD⟩, hS.F ht⟩) hS.2.2 d_O_times_38
set_option maxHeartbeats 4000000 in
set_option maxRecDepth 100000 in
theorem c_O_powerY (l : Launch) (dC : Nat → ClassId) (dI : Nat → Nat → Nat) (cI cL : ClassId) (sz : Nat) (o0 g1 g2 g3 g4 g5 g6 g7 g8 : Nat) (fl p n vr ir od cc gc oc : Nat) (hm : md p n) (a e : Nat) (ha : a < 2 ^ n) (he : e < 2 ^ 63) : Met l y_O_power w_O_power ({ frames := 3, cells := 0, slots := 0, locals := 78 } : Room) (va_Pc [.ref o0, .long (lN a), .long (lN e)] (wq_W (dC, dI) classes [(o0, .inr (4, [.int (nI fl), .long (lN p), .int (nI n), .long (lN vr), .int (nI ir), .long (lN od), .int (nI cc), .ref g1, .int (nI gc), .ref g2, .ref g3, .ref g4, .int (nI oc), .ref g5, .ref g6, .ref g7, .ref g8]))] [(cI, .int), (cL, .long)] sz)) (va_Ql (fun (r : Int64) (u : Unit) => r = lN (px_r p (px_pw a e))) (fun (u : Unit) t => wq_B (dC, dI) classes [(cI, .int), (cL, .long)] (va_A [(o0, .inr (4, [.int (nI fl), .long (lN p), .int (nI n), .long (lN vr), .int (nI ir), .long (lN od), .int (nI cc), .ref g1, .int (nI gc), .ref g2, .ref g3, .ref g4, .int (nI oc), .ref g5, .ref g6, .ref g7, .ref g8]))] sz) [(o0, .inr (4, [.int (nI 0), .long (lN p), .int (nI n), .long (lN vr), .int (nI ir), .long (lN od), .int (nI cc), .ref g1, .int (nI gc), .ref g2, .ref g3, .ref g4, .int (nI oc), .ref g5, .ref g6, .ref g7, .ref g8]))] t) (va_A [(o0, .inr (4, [.int (nI fl), .long (lN p), .int (nI n), .long (lN vr), .int (nI ir), .long (lN od), .int (nI cc), .ref g1, .int (nI gc), .ref g2, .ref g3, .ref g4, .int (nI oc), .ref g5, .ref g6, .ref g7, .ref g8]))] sz)) 0 0 (va_A [(o0, .inr (4, [.int (nI fl), .long (lN p), .int (nI n), .long (lN vr), .int (nI ir), .long (lN od), .int (nI cc), .ref g1, .int (nI gc), .ref g2, .ref g3, .ref g4, .int (nI oc), .ref g5, .ref g6, .ref g7, .ref g8]))] sz) := by
  refine Met.ofW (cc := b_O_power) (maxL := 5) (ret := (Option.some Jvm.ClassFile.FieldType.long)) (by decide) rfl ?_
  intro pg en st mm ar bw me co s₁ B hml hv
  obtain ⟨rfl, hsz, hP, hK, hD0, hN⟩ := hv
  have hx := B.exec
  have hb := B.bytes
  have hr := B.returns
  have hlocks := B.notSynchronized
  have hts0 := atoms_spec (ws := w_O_power) B.pre
  have hts : ∀ w ∈ gw, w.before _ st = true := fun w h => hts0 w (List.mem_cons_of_mem _ h)
  have hown : st.vm.findClass R_O = some mm.cls := findClass_of_methodNamed B.named
  subst hsz
  have hD := hD0.self (sz := st.heap.size)
  generalize hAe : va_A [(o0, .inr (4, [.int (nI fl), .long (lN p), .int (nI n), .long (lN vr), .int (nI ir), .long (lN od), .int (nI cc), .ref g1, .int (nI gc), .ref g2, .ref g3, .ref g4, .int (nI oc), .ref g5, .ref g6, .ref g7, .ref g8]))] st.heap.size = A at hD ⊢
  have hA : ∀ q : Nat, st.heap.size ≤ q → A q := fun q h => by rw [← hAe]; exact Or.inr h
  have hS : va_S A st.heap st.heap [] := va_S.rf
  have hl := lv_entry ([.ref o0, .long (lN a), .long (lN e)]) (n := 5) (Nat.le_of_ble_eq_true rfl)
  rw [lg_entry_eq]
  generalize (lg_sl ([.ref o0, .long (lN a), .long (lN e)]) ++ List.replicate (5 - (lg_sl ([.ref o0, .long (lN a), .long (lN e)])).length) Slot.unset).toArray = ls at hl ⊢
  have hl : lv_has ls 5 [(0, .ref o0), (1, .long (lN a)), (3, .long (lN e))] := hl
  refine lv_aload_n hx hb d_O_power_0 rfl (lv_at hl 0 rfl) ?_
  refine lv_aload_n hx hb d_O_power_1 rfl (lv_at hl 0 rfl) ?_
  refine lv_lload_n hx hb d_O_power_2 rfl (lv_at hl 1 rfl) ?_
  refine vp_callSi (va_Run.run (va_runV (As := [.long (lN a)]) (rest := [.ref o0]) ⟨hx, hb, hml, hown, hts⟩ (c_O_isResidue l dC dI cI cL o0 g1 g2 g3 g4 g5 g6 g7 g8 fl p n vr ir od cc gc oc hm a (by have := res_lt hm ha; omega)) (cwV 1 hts (gi_V kw_600 kw_602 ks_O_isResidue kw_5 gi_O_isResidue) rfl rfl rfl ⟨rfl, by decide, by decide, by decide⟩ ⟨Nat.le_of_ble_eq_true rfl, Nat.le_of_ble_eq_true rfl⟩) (wq_preVR hP hK hN [0] rfl (q0 := 0) (ci := 4) rfl rfl rfl) rfl rfl hl.1 rfl (lv_room (Nat.le_of_ble_eq_true rfl)) d_O_power_3 ⟨Nat.le_of_ble_eq_true rfl, Nat.le_of_ble_eq_true rfl⟩)) (fun r hq => ?_)
  rw [if_pos ha] at hq
  subst hq
  refine lv_if_eq (tgt := 19) hx hb d_O_power_6 (by decide) (fun hc => absurd hc (show ¬ (1 : Int32) = 0 from by decide)) (fun _ => ?_)
  refine lv_lload_n hx hb d_O_power_9 rfl (lv_at hl 2 rfl) ?_
  refine lv_lconst (v := lN 0) hx hb d_O_power_10 (by decide) ?_
  refine W.lcmp hx hb d_O_power_11 ?_
  refine lv_if_lt (tgt := 19) hx hb d_O_power_12 (by decide) (fun hc => absurd hc (fun z => absurd ((lN_neg (by omega)).mp ((lg_cmp_lt _ _).mp z)) (by omega))) (fun _ => ?_)
  refine lv_iconst (v := nI 0) hx hb d_O_power_15 (by decide) ?_
  refine lv_goto (tgt := 20) hx hb d_O_power_16 (by decide) ?_
  refine wq_i (wr := []) (va_runV (As := [.int (nI 0)]) (rest := []) ⟨hx, hb, hml, hown, hts⟩ (c_O_refused0 l dC dI cI cL st.heap.size o0 g1 g2 g3 g4 g5 g6 g7 g8 fl p n vr ir od cc gc oc) (cwV 1 hts (gi_V kw_588 kw_590 ks_O_refused kw_5 gi_O_refused) rfl rfl rfl ⟨rfl, by decide, by decide, by decide⟩ ⟨Nat.le_of_ble_eq_true rfl, Nat.le_of_ble_eq_true rfl⟩) (wq_preVW hP hD hK hN [0] rfl rfl (q0 := 0) (ci := 4) rfl rfl rfl) rfl rfl hl.1 rfl (lv_room (Nat.le_of_ble_eq_true rfl)) d_O_power_20 ⟨Nat.le_of_ble_eq_true rfl, Nat.le_of_ble_eq_true rfl⟩) hP hD hS hA [0] [] rfl rfl rfl (by decide) (fun r u H locs hq hP hD hS hz => ?_)
  have hP : va_P (dC, dI) classes [(o0, .inr (4, [.int (nI 0), .long (lN p), .int (nI n), .long (lN vr), .int (nI ir), .long (lN od), .int (nI cc), .ref g1, .int (nI gc), .ref g2, .ref g3, .ref g4, .int (nI oc), .ref g5, .ref g6, .ref g7, .ref g8]))] H := hP
  have hD : va_D A [(o0, .inr (4, [.int (nI 0), .long (lN p), .int (nI n), .long (lN vr), .int (nI ir), .long (lN od), .int (nI cc), .ref g1, .int (nI gc), .ref g2, .ref g3, .ref g4, .int (nI oc), .ref g5, .ref g6, .ref g7, .ref g8]))] := hD
  subst hq
  refine lv_if_eq (tgt := 30) hx hb d_O_power_23 (by decide) (fun _ => ?_) (fun hc => absurd hc (fun z => z rfl))
  refine lv_aload_n hx hb d_O_power_30 rfl (lv_at hl 0 rfl) ?_
  refine lv_lload_n hx hb d_O_power_31 rfl (lv_at hl 1 rfl) ?_
  refine lv_lload_n hx hb d_O_power_32 rfl (lv_at hl 2 rfl) ?_
  refine vp_callSl (va_Run.run (va_runV (As := [.long (lN a), .long (lN e)]) (rest := []) ⟨hx, hb, hml, hown, hts⟩ (c_O_raised l dC dI cI cL o0 g1 g2 g3 g4 g5 g6 g7 g8 0 p n vr ir od cc gc oc hm a e ha he) (cwV 2 hts (gi_V kw_617 kw_619 ks_O_raised kw_5 gi_O_raised) rfl rfl rfl ⟨rfl, by decide, by decide, by decide⟩ ⟨Nat.le_of_ble_eq_true rfl, Nat.le_of_ble_eq_true rfl⟩) (wq_preVR hP hK hN [0] rfl (q0 := 0) (ci := 4) rfl rfl rfl) rfl rfl hl.1 rfl (lv_room (Nat.le_of_ble_eq_true rfl)) d_O_power_33 ⟨Nat.le_of_ble_eq_true rfl, Nat.le_of_ble_eq_true rfl⟩)) (fun r hq => ?_)
  subst hq
  have hP := hP.sub (ws' := [(o0, .inr (4, [.int (nI 0), .long (lN p), .int (nI n), .long (lN vr), .int (nI ir), .long (lN od), .int (nI cc), .ref g1, .int (nI gc), .ref g2, .ref g3, .ref g4, .int (nI oc), .ref g5, .ref g6, .ref g7, .ref g8]))]) [0] rfl
  have hD := hD.sub (ws' := [(o0, .inr (4, [.int (nI 0), .long (lN p), .int (nI n), .long (lN vr), .int (nI ir), .long (lN od), .int (nI cc), .ref g1, .int (nI gc), .ref g2, .ref g3, .ref g4, .int (nI oc), .ref g5, .ref g6, .ref g7, .ref g8]))]) [0] (by decide) rfl
  exact W.lret (v := lN (px_r p (px_pw a e))) hx hb hr (fun t9 ht hW => ⟨⟨lN (px_r p (px_pw a e)), (), rfl, rfl, by rw [ht]; exact hP, va_K.moved hW.alike hK, hD⟩, hS.F ht⟩) hS.2.2 d_O_power_36
set_option maxHeartbeats 4000000 in
set_option maxRecDepth 100000 in
theorem c_O_powerN (l : Launch) (dC : Nat → ClassId) (dI : Nat → Nat → Nat) (cI cL : ClassId) (sz : Nat) (o0 g1 g2 g3 g4 g5 g6 g7 g8 : Nat) (fl p n vr ir od cc gc oc : Nat) (hm : md p n) (a e : Nat) (ha2 : a < 2 ^ 64) (he2 : e < 2 ^ 64) (hno : ¬ (a < 2 ^ n ∧ e < 2 ^ 63)) : Met l y_O_power w_O_power ({ frames := 3, cells := 0, slots := 0, locals := 78 } : Room) (va_Pc [.ref o0, .long (lN a), .long (lN e)] (wq_W (dC, dI) classes [(o0, .inr (4, [.int (nI fl), .long (lN p), .int (nI n), .long (lN vr), .int (nI ir), .long (lN od), .int (nI cc), .ref g1, .int (nI gc), .ref g2, .ref g3, .ref g4, .int (nI oc), .ref g5, .ref g6, .ref g7, .ref g8]))] [(cI, .int), (cL, .long)] sz)) (va_Ql (fun (r : Int64) (u : Unit) => r = lN 0) (fun (u : Unit) t => wq_B (dC, dI) classes [(cI, .int), (cL, .long)] (va_A [(o0, .inr (4, [.int (nI fl), .long (lN p), .int (nI n), .long (lN vr), .int (nI ir), .long (lN od), .int (nI cc), .ref g1, .int (nI gc), .ref g2, .ref g3, .ref g4, .int (nI oc), .ref g5, .ref g6, .ref g7, .ref g8]))] sz) [(o0, .inr (4, [.int (nI 1), .long (lN p), .int (nI n), .long (lN vr), .int (nI ir), .long (lN od), .int (nI cc), .ref g1, .int (nI gc), .ref g2, .ref g3, .ref g4, .int (nI oc), .ref g5, .ref g6, .ref g7, .ref g8]))] t) (va_A [(o0, .inr (4, [.int (nI fl), .long (lN p), .int (nI n), .long (lN vr), .int (nI ir), .long (lN od), .int (nI cc), .ref g1, .int (nI gc), .ref g2, .ref g3, .ref g4, .int (nI oc), .ref g5, .ref g6, .ref g7, .ref g8]))] sz)) 0 0 (va_A [(o0, .inr (4, [.int (nI fl), .long (lN p), .int (nI n), .long (lN vr), .int (nI ir), .long (lN od), .int (nI cc), .ref g1, .int (nI gc), .ref g2, .ref g3, .ref g4, .int (nI oc), .ref g5, .ref g6, .ref g7, .ref g8]))] sz) := by
  refine Met.ofW (cc := b_O_power) (maxL := 5) (ret := (Option.some Jvm.ClassFile.FieldType.long)) (by decide) rfl ?_
  intro pg en st mm ar bw me co s₁ B hml hv
  obtain ⟨rfl, hsz, hP, hK, hD0, hN⟩ := hv
  have hx := B.exec
  have hb := B.bytes
  have hr := B.returns
  have hlocks := B.notSynchronized
  have hts0 := atoms_spec (ws := w_O_power) B.pre
  have hts : ∀ w ∈ gw, w.before _ st = true := fun w h => hts0 w (List.mem_cons_of_mem _ h)
  have hown : st.vm.findClass R_O = some mm.cls := findClass_of_methodNamed B.named
  subst hsz
  have hD := hD0.self (sz := st.heap.size)
  generalize hAe : va_A [(o0, .inr (4, [.int (nI fl), .long (lN p), .int (nI n), .long (lN vr), .int (nI ir), .long (lN od), .int (nI cc), .ref g1, .int (nI gc), .ref g2, .ref g3, .ref g4, .int (nI oc), .ref g5, .ref g6, .ref g7, .ref g8]))] st.heap.size = A at hD ⊢
  have hA : ∀ q : Nat, st.heap.size ≤ q → A q := fun q h => by rw [← hAe]; exact Or.inr h
  have hS : va_S A st.heap st.heap [] := va_S.rf
  have hl := lv_entry ([.ref o0, .long (lN a), .long (lN e)]) (n := 5) (Nat.le_of_ble_eq_true rfl)
  rw [lg_entry_eq]
  generalize (lg_sl ([.ref o0, .long (lN a), .long (lN e)]) ++ List.replicate (5 - (lg_sl ([.ref o0, .long (lN a), .long (lN e)])).length) Slot.unset).toArray = ls at hl ⊢
  have hl : lv_has ls 5 [(0, .ref o0), (1, .long (lN a)), (3, .long (lN e))] := hl
  refine lv_aload_n hx hb d_O_power_0 rfl (lv_at hl 0 rfl) ?_
  refine lv_aload_n hx hb d_O_power_1 rfl (lv_at hl 0 rfl) ?_
  refine lv_lload_n hx hb d_O_power_2 rfl (lv_at hl 1 rfl) ?_
  by_cases ha : a < 2 ^ n
  · refine vp_callSi (va_Run.run (va_runV (As := [.long (lN a)]) (rest := [.ref o0]) ⟨hx, hb, hml, hown, hts⟩ (c_O_isResidue l dC dI cI cL o0 g1 g2 g3 g4 g5 g6 g7 g8 fl p n vr ir od cc gc oc hm a (by have := res_lt hm ha; omega)) (cwV 1 hts (gi_V kw_600 kw_602 ks_O_isResidue kw_5 gi_O_isResidue) rfl rfl rfl ⟨rfl, by decide, by decide, by decide⟩ ⟨Nat.le_of_ble_eq_true rfl, Nat.le_of_ble_eq_true rfl⟩) (wq_preVR hP hK hN [0] rfl (q0 := 0) (ci := 4) rfl rfl rfl) rfl rfl hl.1 rfl (lv_room (Nat.le_of_ble_eq_true rfl)) d_O_power_3 ⟨Nat.le_of_ble_eq_true rfl, Nat.le_of_ble_eq_true rfl⟩)) (fun r hq => ?_)
    rw [if_pos ha] at hq
    subst hq
    refine lv_if_eq (tgt := 19) hx hb d_O_power_6 (by decide) (fun hc => absurd hc (show ¬ (1 : Int32) = 0 from by decide)) (fun _ => ?_)
    refine lv_lload_n hx hb d_O_power_9 rfl (lv_at hl 2 rfl) ?_
    refine lv_lconst (v := lN 0) hx hb d_O_power_10 (by decide) ?_
    refine W.lcmp hx hb d_O_power_11 ?_
    refine lv_if_lt (tgt := 19) hx hb d_O_power_12 (by decide) (fun _ => ?_) (fun hc => absurd hc (fun z => z ((lg_cmp_lt _ _).mpr ((lN_neg he2).mpr (Nat.le_of_not_lt (fun q => hno ⟨ha, q⟩))))))
    refine lv_iconst (v := nI 1) hx hb d_O_power_19 (by decide) ?_
    refine wq_i (wr := []) (va_runV (As := [.int (nI 1)]) (rest := []) ⟨hx, hb, hml, hown, hts⟩ (c_O_refusedK l dC dI cI cL st.heap.size o0 g1 g2 g3 g4 g5 g6 g7 g8 fl p n vr ir od cc gc oc 1 (by decide) (by decide)) (cwV 1 hts (gi_V kw_588 kw_590 ks_O_refused kw_5 gi_O_refused) rfl rfl rfl ⟨rfl, by decide, by decide, by decide⟩ ⟨Nat.le_of_ble_eq_true rfl, Nat.le_of_ble_eq_true rfl⟩) (wq_preVW hP hD hK hN [0] rfl rfl (q0 := 0) (ci := 4) rfl rfl rfl) rfl rfl hl.1 rfl (lv_room (Nat.le_of_ble_eq_true rfl)) d_O_power_20 ⟨Nat.le_of_ble_eq_true rfl, Nat.le_of_ble_eq_true rfl⟩) hP hD hS hA [0] [] rfl rfl rfl (by decide) (fun r u H locs hq hP hD hS hz => ?_)
    have hP : va_P (dC, dI) classes [(o0, .inr (4, [.int (nI 1), .long (lN p), .int (nI n), .long (lN vr), .int (nI ir), .long (lN od), .int (nI cc), .ref g1, .int (nI gc), .ref g2, .ref g3, .ref g4, .int (nI oc), .ref g5, .ref g6, .ref g7, .ref g8]))] H := hP
    have hD : va_D A [(o0, .inr (4, [.int (nI 1), .long (lN p), .int (nI n), .long (lN vr), .int (nI ir), .long (lN od), .int (nI cc), .ref g1, .int (nI gc), .ref g2, .ref g3, .ref g4, .int (nI oc), .ref g5, .ref g6, .ref g7, .ref g8]))] := hD
    subst hq
    refine lv_if_eq (tgt := 30) hx hb d_O_power_23 (by decide) (fun hc => absurd hc (show ¬ (1 : Int32) = 0 from by decide)) (fun _ => ?_)
    refine lv_lconst (v := lN 0) hx hb d_O_power_26 (by decide) ?_
    refine lv_goto (tgt := 36) hx hb d_O_power_27 (by decide) ?_
    have hP := hP.sub (ws' := [(o0, .inr (4, [.int (nI 1), .long (lN p), .int (nI n), .long (lN vr), .int (nI ir), .long (lN od), .int (nI cc), .ref g1, .int (nI gc), .ref g2, .ref g3, .ref g4, .int (nI oc), .ref g5, .ref g6, .ref g7, .ref g8]))]) [0] rfl
    have hD := hD.sub (ws' := [(o0, .inr (4, [.int (nI 1), .long (lN p), .int (nI n), .long (lN vr), .int (nI ir), .long (lN od), .int (nI cc), .ref g1, .int (nI gc), .ref g2, .ref g3, .ref g4, .int (nI oc), .ref g5, .ref g6, .ref g7, .ref g8]))]) [0] (by decide) rfl
    exact W.lret (v := lN 0) hx hb hr (fun t9 ht hW => ⟨⟨lN 0, (), rfl, rfl, by rw [ht]; exact hP, va_K.moved hW.alike hK, hD⟩, hS.F ht⟩) hS.2.2 d_O_power_36
  · refine vp_callSi (va_Run.run (va_runV (As := [.long (lN a)]) (rest := [.ref o0]) ⟨hx, hb, hml, hown, hts⟩ (c_O_isResidue l dC dI cI cL o0 g1 g2 g3 g4 g5 g6 g7 g8 fl p n vr ir od cc gc oc hm a ha2) (cwV 1 hts (gi_V kw_600 kw_602 ks_O_isResidue kw_5 gi_O_isResidue) rfl rfl rfl ⟨rfl, by decide, by decide, by decide⟩ ⟨Nat.le_of_ble_eq_true rfl, Nat.le_of_ble_eq_true rfl⟩) (wq_preVR hP hK hN [0] rfl (q0 := 0) (ci := 4) rfl rfl rfl) rfl rfl hl.1 rfl (lv_room (Nat.le_of_ble_eq_true rfl)) d_O_power_3 ⟨Nat.le_of_ble_eq_true rfl, Nat.le_of_ble_eq_true rfl⟩)) (fun r hq => ?_)
    rw [if_neg ha] at hq
    subst hq
    refine lv_if_eq (tgt := 19) hx hb d_O_power_6 (by decide) (fun _ => ?_) (fun hc => absurd hc (fun z => z rfl))
    refine lv_iconst (v := nI 1) hx hb d_O_power_19 (by decide) ?_
    refine wq_i (wr := []) (va_runV (As := [.int (nI 1)]) (rest := []) ⟨hx, hb, hml, hown, hts⟩ (c_O_refusedK l dC dI cI cL st.heap.size o0 g1 g2 g3 g4 g5 g6 g7 g8 fl p n vr ir od cc gc oc 1 (by decide) (by decide)) (cwV 1 hts (gi_V kw_588 kw_590 ks_O_refused kw_5 gi_O_refused) rfl rfl rfl ⟨rfl, by decide, by decide, by decide⟩ ⟨Nat.le_of_ble_eq_true rfl, Nat.le_of_ble_eq_true rfl⟩) (wq_preVW hP hD hK hN [0] rfl rfl (q0 := 0) (ci := 4) rfl rfl rfl) rfl rfl hl.1 rfl (lv_room (Nat.le_of_ble_eq_true rfl)) d_O_power_20 ⟨Nat.le_of_ble_eq_true rfl, Nat.le_of_ble_eq_true rfl⟩) hP hD hS hA [0] [] rfl rfl rfl (by decide) (fun r u H locs hq hP hD hS hz => ?_)
    have hP : va_P (dC, dI) classes [(o0, .inr (4, [.int (nI 1), .long (lN p), .int (nI n), .long (lN vr), .int (nI ir), .long (lN od), .int (nI cc), .ref g1, .int (nI gc), .ref g2, .ref g3, .ref g4, .int (nI oc), .ref g5, .ref g6, .ref g7, .ref g8]))] H := hP
    have hD : va_D A [(o0, .inr (4, [.int (nI 1), .long (lN p), .int (nI n), .long (lN vr), .int (nI ir), .long (lN od), .int (nI cc), .ref g1, .int (nI gc), .ref g2, .ref g3, .ref g4, .int (nI oc), .ref g5, .ref g6, .ref g7, .ref g8]))] := hD
    subst hq
    refine lv_if_eq (tgt := 30) hx hb d_O_power_23 (by decide) (fun hc => absurd hc (show ¬ (1 : Int32) = 0 from by decide)) (fun _ => ?_)
    refine lv_lconst (v := lN 0) hx hb d_O_power_26 (by decide) ?_
    refine lv_goto (tgt := 36) hx hb d_O_power_27 (by decide) ?_
    have hP := hP.sub (ws' := [(o0, .inr (4, [.int (nI 1), .long (lN p), .int (nI n), .long (lN vr), .int (nI ir), .long (lN od), .int (nI cc), .ref g1, .int (nI gc), .ref g2, .ref g3, .ref g4, .int (nI oc), .ref g5, .ref g6, .ref g7, .ref g8]))]) [0] rfl
    have hD := hD.sub (ws' := [(o0, .inr (4, [.int (nI 1), .long (lN p), .int (nI n), .long (lN vr), .int (nI ir), .long (lN od), .int (nI cc), .ref g1, .int (nI gc), .ref g2, .ref g3, .ref g4, .int (nI oc), .ref g5, .ref g6, .ref g7, .ref g8]))]) [0] (by decide) rfl
    exact W.lret (v := lN 0) hx hb hr (fun t9 ht hW => ⟨⟨lN 0, (), rfl, rfl, by rw [ht]; exact hP, va_K.moved hW.alike hK, hD⟩, hS.F ht⟩) hS.2.2 d_O_power_36
set_option maxHeartbeats 4000000 in
set_option maxRecDepth 100000 in
theorem c_O_residue (l : Launch) (dC : Nat → ClassId) (dI : Nat → Nat → Nat) (cI cL : ClassId) (sz : Nat) (o0 g1 g2 g3 g4 g5 g6 g7 g8 : Nat) (fl p n vr ir od cc gc oc : Nat) (hm : md p n) (a : Nat) (ha : a < 2 ^ 64) : Met l y_O_residue w_O_residue ({ frames := 2, cells := 0, slots := 0, locals := 49 } : Room) (va_Pc [.ref o0, .long (lN a)] (wq_W (dC, dI) classes [(o0, .inr (4, [.int (nI fl), .long (lN p), .int (nI n), .long (lN vr), .int (nI ir), .long (lN od), .int (nI cc), .ref g1, .int (nI gc), .ref g2, .ref g3, .ref g4, .int (nI oc), .ref g5, .ref g6, .ref g7, .ref g8]))] [(cI, .int), (cL, .long)] sz)) (va_Ql (fun (r : Int64) (u : Unit) => r = lN (px_r p a)) (fun (u : Unit) t => wq_B (dC, dI) classes [(cI, .int), (cL, .long)] (va_A [(o0, .inr (4, [.int (nI fl), .long (lN p), .int (nI n), .long (lN vr), .int (nI ir), .long (lN od), .int (nI cc), .ref g1, .int (nI gc), .ref g2, .ref g3, .ref g4, .int (nI oc), .ref g5, .ref g6, .ref g7, .ref g8]))] sz) [(o0, .inr (4, [.int (nI 0), .long (lN p), .int (nI n), .long (lN vr), .int (nI ir), .long (lN od), .int (nI cc), .ref g1, .int (nI gc), .ref g2, .ref g3, .ref g4, .int (nI oc), .ref g5, .ref g6, .ref g7, .ref g8]))] t) (va_A [(o0, .inr (4, [.int (nI fl), .long (lN p), .int (nI n), .long (lN vr), .int (nI ir), .long (lN od), .int (nI cc), .ref g1, .int (nI gc), .ref g2, .ref g3, .ref g4, .int (nI oc), .ref g5, .ref g6, .ref g7, .ref g8]))] sz)) 0 0 (va_A [(o0, .inr (4, [.int (nI fl), .long (lN p), .int (nI n), .long (lN vr), .int (nI ir), .long (lN od), .int (nI cc), .ref g1, .int (nI gc), .ref g2, .ref g3, .ref g4, .int (nI oc), .ref g5, .ref g6, .ref g7, .ref g8]))] sz) := by
  refine Met.ofW (cc := b_O_residue) (maxL := 3) (ret := (Option.some Jvm.ClassFile.FieldType.long)) (by decide) rfl ?_
  intro pg en st mm ar bw me co s₁ B hml hv
  obtain ⟨rfl, hsz, hP, hK, hD0, hN⟩ := hv
  have hx := B.exec
  have hb := B.bytes
  have hr := B.returns
  have hlocks := B.notSynchronized
  have hts0 := atoms_spec (ws := w_O_residue) B.pre
  have hts : ∀ w ∈ gw, w.before _ st = true := fun w h => hts0 w (List.mem_cons_of_mem _ h)
  have hown : st.vm.findClass R_O = some mm.cls := findClass_of_methodNamed B.named
  subst hsz
  have hD := hD0.self (sz := st.heap.size)
  generalize hAe : va_A [(o0, .inr (4, [.int (nI fl), .long (lN p), .int (nI n), .long (lN vr), .int (nI ir), .long (lN od), .int (nI cc), .ref g1, .int (nI gc), .ref g2, .ref g3, .ref g4, .int (nI oc), .ref g5, .ref g6, .ref g7, .ref g8]))] st.heap.size = A at hD ⊢
  have hA : ∀ q : Nat, st.heap.size ≤ q → A q := fun q h => by rw [← hAe]; exact Or.inr h
  have hS : va_S A st.heap st.heap [] := va_S.rf
  have hl := lv_entry ([.ref o0, .long (lN a)]) (n := 3) (Nat.le_of_ble_eq_true rfl)
  rw [lg_entry_eq]
  generalize (lg_sl ([.ref o0, .long (lN a)]) ++ List.replicate (3 - (lg_sl ([.ref o0, .long (lN a)])).length) Slot.unset).toArray = ls at hl ⊢
  have hl : lv_has ls 3 [(0, .ref o0), (1, .long (lN a))] := hl
  refine lv_aload_n hx hb d_O_residue_0 rfl (lv_at hl 0 rfl) ?_
  refine lv_iconst (v := nI 0) hx hb d_O_residue_1 (by decide) ?_
  refine va_put (D := (dC, dI)) (ci := 4) (v := .int (nI 0)) (ty := .int) (C := R_O) (T := F_O) (N := 17) hx hb hts in_O t_O t_O_ok n_O hown hK hP hD hS 0 rfl rfl 0 (by decide) (hts _ kw_528) (fun _ h9 => h9) rfl (by decide +kernel) rfl rfl (Nat.le_of_ble_eq_true rfl) d_O_residue_2 (fun H locs hP hD hS => ?_)
  have hP : va_P (dC, dI) classes [(o0, .inr (4, [.int (nI 0), .long (lN p), .int (nI n), .long (lN vr), .int (nI ir), .long (lN od), .int (nI cc), .ref g1, .int (nI gc), .ref g2, .ref g3, .ref g4, .int (nI oc), .ref g5, .ref g6, .ref g7, .ref g8]))] H := hP
  have hD : va_D A [(o0, .inr (4, [.int (nI 0), .long (lN p), .int (nI n), .long (lN vr), .int (nI ir), .long (lN od), .int (nI cc), .ref g1, .int (nI gc), .ref g2, .ref g3, .ref g4, .int (nI oc), .ref g5, .ref g6, .ref g7, .ref g8]))] := hD
  refine lv_aload_n hx hb d_O_residue_5 rfl (lv_at hl 0 rfl) ?_
  refine lv_lload_n hx hb d_O_residue_6 rfl (lv_at hl 1 rfl) ?_
  refine vp_callSl (va_Run.run (va_runV (As := [.long (lN a)]) (rest := []) ⟨hx, hb, hml, hown, hts⟩ (c_O_reduced l dC dI cI cL o0 g1 g2 g3 g4 g5 g6 g7 g8 0 p n vr ir od cc gc oc hm a ha) (cwV 1 hts (gi_V kw_621 kw_623 ks_O_reduced kw_5 gi_O_reduced) rfl rfl rfl ⟨rfl, by decide, by decide, by decide⟩ ⟨Nat.le_of_ble_eq_true rfl, Nat.le_of_ble_eq_true rfl⟩) (wq_preVR hP hK hN [0] rfl (q0 := 0) (ci := 4) rfl rfl rfl) rfl rfl hl.1 rfl (lv_room (Nat.le_of_ble_eq_true rfl)) d_O_residue_7 ⟨Nat.le_of_ble_eq_true rfl, Nat.le_of_ble_eq_true rfl⟩)) (fun r hq => ?_)
  subst hq
  have hP := hP.sub (ws' := [(o0, .inr (4, [.int (nI 0), .long (lN p), .int (nI n), .long (lN vr), .int (nI ir), .long (lN od), .int (nI cc), .ref g1, .int (nI gc), .ref g2, .ref g3, .ref g4, .int (nI oc), .ref g5, .ref g6, .ref g7, .ref g8]))]) [0] rfl
  have hD := hD.sub (ws' := [(o0, .inr (4, [.int (nI 0), .long (lN p), .int (nI n), .long (lN vr), .int (nI ir), .long (lN od), .int (nI cc), .ref g1, .int (nI gc), .ref g2, .ref g3, .ref g4, .int (nI oc), .ref g5, .ref g6, .ref g7, .ref g8]))]) [0] (by decide) rfl
  exact W.lret (v := lN (px_r p a)) hx hb hr (fun t9 ht hW => ⟨⟨lN (px_r p a), (), rfl, rfl, by rw [ht]; exact hP, va_K.moved hW.alike hK, hD⟩, hS.F ht⟩) hS.2.2 d_O_residue_10
set_option maxHeartbeats 4000000 in
set_option maxRecDepth 100000 in
theorem c_O_loadY (l : Launch) (dC : Nat → ClassId) (dI : Nat → Nat → Nat) (cI cL : ClassId) (sz : Nat) (o0 g1 g2 g3 g4 g5 g6 g7 g8 : Nat) (fl p n vr ir od cc gc oc : Nat) (hm : md p n) (a : Nat) (ha : a < 2 ^ n) : Met l y_O_load w_O_load ({ frames := 1, cells := 0, slots := 0, locals := 22 } : Room) (va_Pc [.ref o0, .long (lN a)] (wq_W (dC, dI) classes [(o0, .inr (4, [.int (nI fl), .long (lN p), .int (nI n), .long (lN vr), .int (nI ir), .long (lN od), .int (nI cc), .ref g1, .int (nI gc), .ref g2, .ref g3, .ref g4, .int (nI oc), .ref g5, .ref g6, .ref g7, .ref g8]))] [(cI, .int), (cL, .long)] sz)) (va_Ql (fun (r : Int64) (u : Unit) => r = lN vr) (fun (u : Unit) t => wq_B (dC, dI) classes [(cI, .int), (cL, .long)] (va_A [(o0, .inr (4, [.int (nI fl), .long (lN p), .int (nI n), .long (lN vr), .int (nI ir), .long (lN od), .int (nI cc), .ref g1, .int (nI gc), .ref g2, .ref g3, .ref g4, .int (nI oc), .ref g5, .ref g6, .ref g7, .ref g8]))] sz) [(o0, .inr (4, [.int (nI 0), .long (lN p), .int (nI n), .long (lN a), .int (nI ir), .long (lN od), .int (nI cc), .ref g1, .int (nI gc), .ref g2, .ref g3, .ref g4, .int (nI oc), .ref g5, .ref g6, .ref g7, .ref g8]))] t) (va_A [(o0, .inr (4, [.int (nI fl), .long (lN p), .int (nI n), .long (lN vr), .int (nI ir), .long (lN od), .int (nI cc), .ref g1, .int (nI gc), .ref g2, .ref g3, .ref g4, .int (nI oc), .ref g5, .ref g6, .ref g7, .ref g8]))] sz)) 0 0 (va_A [(o0, .inr (4, [.int (nI fl), .long (lN p), .int (nI n), .long (lN vr), .int (nI ir), .long (lN od), .int (nI cc), .ref g1, .int (nI gc), .ref g2, .ref g3, .ref g4, .int (nI oc), .ref g5, .ref g6, .ref g7, .ref g8]))] sz) := by
  refine Met.ofW (cc := b_O_load) (maxL := 5) (ret := (Option.some Jvm.ClassFile.FieldType.long)) (by decide) rfl ?_
  intro pg en st mm ar bw me co s₁ B hml hv
  obtain ⟨rfl, hsz, hP, hK, hD0, hN⟩ := hv
  have hx := B.exec
  have hb := B.bytes
  have hr := B.returns
  have hlocks := B.notSynchronized
  have hts0 := atoms_spec (ws := w_O_load) B.pre
  have hts : ∀ w ∈ gw, w.before _ st = true := fun w h => hts0 w (List.mem_cons_of_mem _ h)
  have hown : st.vm.findClass R_O = some mm.cls := findClass_of_methodNamed B.named
  subst hsz
  have hD := hD0.self (sz := st.heap.size)
  generalize hAe : va_A [(o0, .inr (4, [.int (nI fl), .long (lN p), .int (nI n), .long (lN vr), .int (nI ir), .long (lN od), .int (nI cc), .ref g1, .int (nI gc), .ref g2, .ref g3, .ref g4, .int (nI oc), .ref g5, .ref g6, .ref g7, .ref g8]))] st.heap.size = A at hD ⊢
  have hA : ∀ q : Nat, st.heap.size ≤ q → A q := fun q h => by rw [← hAe]; exact Or.inr h
  have hS : va_S A st.heap st.heap [] := va_S.rf
  have hl := lv_entry ([.ref o0, .long (lN a)]) (n := 5) (Nat.le_of_ble_eq_true rfl)
  rw [lg_entry_eq]
  generalize (lg_sl ([.ref o0, .long (lN a)]) ++ List.replicate (5 - (lg_sl ([.ref o0, .long (lN a)])).length) Slot.unset).toArray = ls at hl ⊢
  have hl : lv_has ls 5 [(0, .ref o0), (1, .long (lN a))] := hl
  refine lv_aload_n hx hb d_O_load_0 rfl (lv_at hl 0 rfl) ?_
  refine lv_aload_n hx hb d_O_load_1 rfl (lv_at hl 0 rfl) ?_
  refine lv_lload_n hx hb d_O_load_2 rfl (lv_at hl 1 rfl) ?_
  refine vp_callSi (va_Run.run (va_runV (As := [.long (lN a)]) (rest := [.ref o0]) ⟨hx, hb, hml, hown, hts⟩ (c_O_isResidue l dC dI cI cL o0 g1 g2 g3 g4 g5 g6 g7 g8 fl p n vr ir od cc gc oc hm a (by have := res_lt hm ha; omega)) (cwV 1 hts (gi_V kw_600 kw_602 ks_O_isResidue kw_5 gi_O_isResidue) rfl rfl rfl ⟨rfl, by decide, by decide, by decide⟩ ⟨Nat.le_of_ble_eq_true rfl, Nat.le_of_ble_eq_true rfl⟩) (wq_preVR hP hK hN [0] rfl (q0 := 0) (ci := 4) rfl rfl rfl) rfl rfl hl.1 rfl (lv_room (Nat.le_of_ble_eq_true rfl)) d_O_load_3 ⟨Nat.le_of_ble_eq_true rfl, Nat.le_of_ble_eq_true rfl⟩)) (fun r hq => ?_)
  rw [if_pos ha] at hq
  subst hq
  refine lv_if_eq (tgt := 13) hx hb d_O_load_6 (by decide) (fun hc => absurd hc (show ¬ (1 : Int32) = 0 from by decide)) (fun _ => ?_)
  refine lv_iconst (v := nI 0) hx hb d_O_load_9 (by decide) ?_
  refine lv_goto (tgt := 14) hx hb d_O_load_10 (by decide) ?_
  refine wq_i (wr := []) (va_runV (As := [.int (nI 0)]) (rest := []) ⟨hx, hb, hml, hown, hts⟩ (c_O_refused0 l dC dI cI cL st.heap.size o0 g1 g2 g3 g4 g5 g6 g7 g8 fl p n vr ir od cc gc oc) (cwV 1 hts (gi_V kw_588 kw_590 ks_O_refused kw_5 gi_O_refused) rfl rfl rfl ⟨rfl, by decide, by decide, by decide⟩ ⟨Nat.le_of_ble_eq_true rfl, Nat.le_of_ble_eq_true rfl⟩) (wq_preVW hP hD hK hN [0] rfl rfl (q0 := 0) (ci := 4) rfl rfl rfl) rfl rfl hl.1 rfl (lv_room (Nat.le_of_ble_eq_true rfl)) d_O_load_14 ⟨Nat.le_of_ble_eq_true rfl, Nat.le_of_ble_eq_true rfl⟩) hP hD hS hA [0] [] rfl rfl rfl (by decide) (fun r u H locs hq hP hD hS hz => ?_)
  have hP : va_P (dC, dI) classes [(o0, .inr (4, [.int (nI 0), .long (lN p), .int (nI n), .long (lN vr), .int (nI ir), .long (lN od), .int (nI cc), .ref g1, .int (nI gc), .ref g2, .ref g3, .ref g4, .int (nI oc), .ref g5, .ref g6, .ref g7, .ref g8]))] H := hP
  have hD : va_D A [(o0, .inr (4, [.int (nI 0), .long (lN p), .int (nI n), .long (lN vr), .int (nI ir), .long (lN od), .int (nI cc), .ref g1, .int (nI gc), .ref g2, .ref g3, .ref g4, .int (nI oc), .ref g5, .ref g6, .ref g7, .ref g8]))] := hD
  subst hq
  refine lv_if_eq (tgt := 22) hx hb d_O_load_17 (by decide) (fun _ => ?_) (fun hc => absurd hc (fun z => z rfl))
  refine lv_aload_n hx hb d_O_load_22 rfl (lv_at hl 0 rfl) ?_
  refine va_get (D := (dC, dI)) (ci := 4) (v := .long (lN vr)) (C := R_O) (T := F_O) (N := 17) hx hb hts in_O hown hK hP 0 rfl rfl 3 (by decide) (hts _ kw_531) (fun _ h9 => h9) rfl d_O_load_23 ?_
  refine lv_lstore_n (lv' := [(3, .long (lN vr)), (0, .ref o0), (1, .long (lN a))]) hx hb d_O_load_26 rfl hl (by decide) rfl (fun ls hl => ?_)
  refine lv_aload_n hx hb d_O_load_27 rfl (lv_at hl 1 rfl) ?_
  refine lv_lload_n hx hb d_O_load_28 rfl (lv_at hl 2 rfl) ?_
  refine va_put (D := (dC, dI)) (ci := 4) (v := .long (lN a)) (ty := .long) (C := R_O) (T := F_O) (N := 17) hx hb hts in_O t_O t_O_ok n_O hown hK hP hD hS 0 rfl rfl 3 (by decide) (hts _ kw_531) (fun _ h9 => h9) rfl (by decide +kernel) rfl rfl (Nat.le_of_ble_eq_true rfl) d_O_load_29 (fun H locs hP hD hS => ?_)
  have hP : va_P (dC, dI) classes [(o0, .inr (4, [.int (nI 0), .long (lN p), .int (nI n), .long (lN a), .int (nI ir), .long (lN od), .int (nI cc), .ref g1, .int (nI gc), .ref g2, .ref g3, .ref g4, .int (nI oc), .ref g5, .ref g6, .ref g7, .ref g8]))] H := hP
  have hD : va_D A [(o0, .inr (4, [.int (nI 0), .long (lN p), .int (nI n), .long (lN a), .int (nI ir), .long (lN od), .int (nI cc), .ref g1, .int (nI gc), .ref g2, .ref g3, .ref g4, .int (nI oc), .ref g5, .ref g6, .ref g7, .ref g8]))] := hD
  refine lv_lload_n hx hb d_O_load_32 rfl (lv_at hl 0 rfl) ?_
  have hP := hP.sub (ws' := [(o0, .inr (4, [.int (nI 0), .long (lN p), .int (nI n), .long (lN a), .int (nI ir), .long (lN od), .int (nI cc), .ref g1, .int (nI gc), .ref g2, .ref g3, .ref g4, .int (nI oc), .ref g5, .ref g6, .ref g7, .ref g8]))]) [0] rfl
  have hD := hD.sub (ws' := [(o0, .inr (4, [.int (nI 0), .long (lN p), .int (nI n), .long (lN a), .int (nI ir), .long (lN od), .int (nI cc), .ref g1, .int (nI gc), .ref g2, .ref g3, .ref g4, .int (nI oc), .ref g5, .ref g6, .ref g7, .ref g8]))]) [0] (by decide) rfl
  exact W.lret (v := lN vr) hx hb hr (fun t9 ht hW => ⟨⟨lN vr, (), rfl, rfl, by rw [ht]; exact hP, va_K.moved hW.alike hK, hD⟩, hS.F ht⟩) hS.2.2 d_O_load_33
set_option maxHeartbeats 4000000 in
set_option maxRecDepth 100000 in
theorem c_O_loadN (l : Launch) (dC : Nat → ClassId) (dI : Nat → Nat → Nat) (cI cL : ClassId) (sz : Nat) (o0 g1 g2 g3 g4 g5 g6 g7 g8 : Nat) (fl p n vr ir od cc gc oc : Nat) (hm : md p n) (a : Nat) (ha2 : a < 2 ^ 64) (ha : ¬ a < 2 ^ n) : Met l y_O_load w_O_load ({ frames := 1, cells := 0, slots := 0, locals := 22 } : Room) (va_Pc [.ref o0, .long (lN a)] (wq_W (dC, dI) classes [(o0, .inr (4, [.int (nI fl), .long (lN p), .int (nI n), .long (lN vr), .int (nI ir), .long (lN od), .int (nI cc), .ref g1, .int (nI gc), .ref g2, .ref g3, .ref g4, .int (nI oc), .ref g5, .ref g6, .ref g7, .ref g8]))] [(cI, .int), (cL, .long)] sz)) (va_Ql (fun (r : Int64) (u : Unit) => r = lN 0) (fun (u : Unit) t => wq_B (dC, dI) classes [(cI, .int), (cL, .long)] (va_A [(o0, .inr (4, [.int (nI fl), .long (lN p), .int (nI n), .long (lN vr), .int (nI ir), .long (lN od), .int (nI cc), .ref g1, .int (nI gc), .ref g2, .ref g3, .ref g4, .int (nI oc), .ref g5, .ref g6, .ref g7, .ref g8]))] sz) [(o0, .inr (4, [.int (nI 1), .long (lN p), .int (nI n), .long (lN vr), .int (nI ir), .long (lN od), .int (nI cc), .ref g1, .int (nI gc), .ref g2, .ref g3, .ref g4, .int (nI oc), .ref g5, .ref g6, .ref g7, .ref g8]))] t) (va_A [(o0, .inr (4, [.int (nI fl), .long (lN p), .int (nI n), .long (lN vr), .int (nI ir), .long (lN od), .int (nI cc), .ref g1, .int (nI gc), .ref g2, .ref g3, .ref g4, .int (nI oc), .ref g5, .ref g6, .ref g7, .ref g8]))] sz)) 0 0 (va_A [(o0, .inr (4, [.int (nI fl), .long (lN p), .int (nI n), .long (lN vr), .int (nI ir), .long (lN od), .int (nI cc), .ref g1, .int (nI gc), .ref g2, .ref g3, .ref g4, .int (nI oc), .ref g5, .ref g6, .ref g7, .ref g8]))] sz) := by
  refine Met.ofW (cc := b_O_load) (maxL := 5) (ret := (Option.some Jvm.ClassFile.FieldType.long)) (by decide) rfl ?_
  intro pg en st mm ar bw me co s₁ B hml hv
  obtain ⟨rfl, hsz, hP, hK, hD0, hN⟩ := hv
  have hx := B.exec
  have hb := B.bytes
  have hr := B.returns
  have hlocks := B.notSynchronized
  have hts0 := atoms_spec (ws := w_O_load) B.pre
  have hts : ∀ w ∈ gw, w.before _ st = true := fun w h => hts0 w (List.mem_cons_of_mem _ h)
  have hown : st.vm.findClass R_O = some mm.cls := findClass_of_methodNamed B.named
  subst hsz
  have hD := hD0.self (sz := st.heap.size)
  generalize hAe : va_A [(o0, .inr (4, [.int (nI fl), .long (lN p), .int (nI n), .long (lN vr), .int (nI ir), .long (lN od), .int (nI cc), .ref g1, .int (nI gc), .ref g2, .ref g3, .ref g4, .int (nI oc), .ref g5, .ref g6, .ref g7, .ref g8]))] st.heap.size = A at hD ⊢
  have hA : ∀ q : Nat, st.heap.size ≤ q → A q := fun q h => by rw [← hAe]; exact Or.inr h
  have hS : va_S A st.heap st.heap [] := va_S.rf
  have hl := lv_entry ([.ref o0, .long (lN a)]) (n := 5) (Nat.le_of_ble_eq_true rfl)
  rw [lg_entry_eq]
  generalize (lg_sl ([.ref o0, .long (lN a)]) ++ List.replicate (5 - (lg_sl ([.ref o0, .long (lN a)])).length) Slot.unset).toArray = ls at hl ⊢
  have hl : lv_has ls 5 [(0, .ref o0), (1, .long (lN a))] := hl
  refine lv_aload_n hx hb d_O_load_0 rfl (lv_at hl 0 rfl) ?_
  refine lv_aload_n hx hb d_O_load_1 rfl (lv_at hl 0 rfl) ?_
  refine lv_lload_n hx hb d_O_load_2 rfl (lv_at hl 1 rfl) ?_
  refine vp_callSi (va_Run.run (va_runV (As := [.long (lN a)]) (rest := [.ref o0]) ⟨hx, hb, hml, hown, hts⟩ (c_O_isResidue l dC dI cI cL o0 g1 g2 g3 g4 g5 g6 g7 g8 fl p n vr ir od cc gc oc hm a ha2) (cwV 1 hts (gi_V kw_600 kw_602 ks_O_isResidue kw_5 gi_O_isResidue) rfl rfl rfl ⟨rfl, by decide, by decide, by decide⟩ ⟨Nat.le_of_ble_eq_true rfl, Nat.le_of_ble_eq_true rfl⟩) (wq_preVR hP hK hN [0] rfl (q0 := 0) (ci := 4) rfl rfl rfl) rfl rfl hl.1 rfl (lv_room (Nat.le_of_ble_eq_true rfl)) d_O_load_3 ⟨Nat.le_of_ble_eq_true rfl, Nat.le_of_ble_eq_true rfl⟩)) (fun r hq => ?_)
  rw [if_neg ha] at hq
  subst hq
  refine lv_if_eq (tgt := 13) hx hb d_O_load_6 (by decide) (fun _ => ?_) (fun hc => absurd hc (fun z => z rfl))
  refine lv_iconst (v := nI 1) hx hb d_O_load_13 (by decide) ?_
  refine wq_i (wr := []) (va_runV (As := [.int (nI 1)]) (rest := []) ⟨hx, hb, hml, hown, hts⟩ (c_O_refusedK l dC dI cI cL st.heap.size o0 g1 g2 g3 g4 g5 g6 g7 g8 fl p n vr ir od cc gc oc 1 (by decide) (by decide)) (cwV 1 hts (gi_V kw_588 kw_590 ks_O_refused kw_5 gi_O_refused) rfl rfl rfl ⟨rfl, by decide, by decide, by decide⟩ ⟨Nat.le_of_ble_eq_true rfl, Nat.le_of_ble_eq_true rfl⟩) (wq_preVW hP hD hK hN [0] rfl rfl (q0 := 0) (ci := 4) rfl rfl rfl) rfl rfl hl.1 rfl (lv_room (Nat.le_of_ble_eq_true rfl)) d_O_load_14 ⟨Nat.le_of_ble_eq_true rfl, Nat.le_of_ble_eq_true rfl⟩) hP hD hS hA [0] [] rfl rfl rfl (by decide) (fun r u H locs hq hP hD hS hz => ?_)
  have hP : va_P (dC, dI) classes [(o0, .inr (4, [.int (nI 1), .long (lN p), .int (nI n), .long (lN vr), .int (nI ir), .long (lN od), .int (nI cc), .ref g1, .int (nI gc), .ref g2, .ref g3, .ref g4, .int (nI oc), .ref g5, .ref g6, .ref g7, .ref g8]))] H := hP
  have hD : va_D A [(o0, .inr (4, [.int (nI 1), .long (lN p), .int (nI n), .long (lN vr), .int (nI ir), .long (lN od), .int (nI cc), .ref g1, .int (nI gc), .ref g2, .ref g3, .ref g4, .int (nI oc), .ref g5, .ref g6, .ref g7, .ref g8]))] := hD
  subst hq
  refine lv_if_eq (tgt := 22) hx hb d_O_load_17 (by decide) (fun hc => absurd hc (show ¬ (1 : Int32) = 0 from by decide)) (fun _ => ?_)
  refine lv_lconst (v := lN 0) hx hb d_O_load_20 (by decide) ?_
  have hP := hP.sub (ws' := [(o0, .inr (4, [.int (nI 1), .long (lN p), .int (nI n), .long (lN vr), .int (nI ir), .long (lN od), .int (nI cc), .ref g1, .int (nI gc), .ref g2, .ref g3, .ref g4, .int (nI oc), .ref g5, .ref g6, .ref g7, .ref g8]))]) [0] rfl
  have hD := hD.sub (ws' := [(o0, .inr (4, [.int (nI 1), .long (lN p), .int (nI n), .long (lN vr), .int (nI ir), .long (lN od), .int (nI cc), .ref g1, .int (nI gc), .ref g2, .ref g3, .ref g4, .int (nI oc), .ref g5, .ref g6, .ref g7, .ref g8]))]) [0] (by decide) rfl
  exact W.lret (v := lN 0) hx hb hr (fun t9 ht hW => ⟨⟨lN 0, (), rfl, rfl, by rw [ht]; exact hP, va_K.moved hW.alike hK, hD⟩, hS.F ht⟩) hS.2.2 d_O_load_21
set_option maxHeartbeats 4000000 in
set_option maxRecDepth 100000 in
theorem c_O_stepsY (l : Launch) (dC : Nat → ClassId) (dI : Nat → Nat → Nat) (cI cL : ClassId) (sz : Nat) (o0 g1 g2 g3 g4 g5 g6 g7 g8 : Nat) (fl p n vr ir od cc gc oc : Nat) (hm : md p n) (e : Nat) (he : e < 2 ^ 63) (hvr : vr < 2 ^ n) : Met l y_O_steps w_O_steps ({ frames := 3, cells := 0, slots := 0, locals := 78 } : Room) (va_Pc [.ref o0, .long (lN e)] (wq_W (dC, dI) classes [(o0, .inr (4, [.int (nI fl), .long (lN p), .int (nI n), .long (lN vr), .int (nI ir), .long (lN od), .int (nI cc), .ref g1, .int (nI gc), .ref g2, .ref g3, .ref g4, .int (nI oc), .ref g5, .ref g6, .ref g7, .ref g8]))] [(cI, .int), (cL, .long)] sz)) (va_Ql (fun (r : Int64) (u : Unit) => r = lN (px_r p (px_m vr (px_r p (px_pw (px_r p 2) e))))) (fun (u : Unit) t => wq_B (dC, dI) classes [(cI, .int), (cL, .long)] (va_A [(o0, .inr (4, [.int (nI fl), .long (lN p), .int (nI n), .long (lN vr), .int (nI ir), .long (lN od), .int (nI cc), .ref g1, .int (nI gc), .ref g2, .ref g3, .ref g4, .int (nI oc), .ref g5, .ref g6, .ref g7, .ref g8]))] sz) [(o0, .inr (4, [.int (nI 0), .long (lN p), .int (nI n), .long (lN (px_r p (px_m vr (px_r p (px_pw (px_r p 2) e))))), .int (nI ir), .long (lN od), .int (nI cc), .ref g1, .int (nI gc), .ref g2, .ref g3, .ref g4, .int (nI oc), .ref g5, .ref g6, .ref g7, .ref g8]))] t) (va_A [(o0, .inr (4, [.int (nI fl), .long (lN p), .int (nI n), .long (lN vr), .int (nI ir), .long (lN od), .int (nI cc), .ref g1, .int (nI gc), .ref g2, .ref g3, .ref g4, .int (nI oc), .ref g5, .ref g6, .ref g7, .ref g8]))] sz)) 0 0 (va_A [(o0, .inr (4, [.int (nI fl), .long (lN p), .int (nI n), .long (lN vr), .int (nI ir), .long (lN od), .int (nI cc), .ref g1, .int (nI gc), .ref g2, .ref g3, .ref g4, .int (nI oc), .ref g5, .ref g6, .ref g7, .ref g8]))] sz) := by
  refine Met.ofW (cc := b_O_steps) (maxL := 3) (ret := (Option.some Jvm.ClassFile.FieldType.long)) (by decide) rfl ?_
  intro pg en st mm ar bw me co s₁ B hml hv
  obtain ⟨rfl, hsz, hP, hK, hD0, hN⟩ := hv
  have hx := B.exec
  have hb := B.bytes
  have hr := B.returns
  have hlocks := B.notSynchronized
  have hts0 := atoms_spec (ws := w_O_steps) B.pre
  have hts : ∀ w ∈ gw, w.before _ st = true := fun w h => hts0 w (List.mem_cons_of_mem _ h)
  have hown : st.vm.findClass R_O = some mm.cls := findClass_of_methodNamed B.named
  subst hsz
  have hD := hD0.self (sz := st.heap.size)
  generalize hAe : va_A [(o0, .inr (4, [.int (nI fl), .long (lN p), .int (nI n), .long (lN vr), .int (nI ir), .long (lN od), .int (nI cc), .ref g1, .int (nI gc), .ref g2, .ref g3, .ref g4, .int (nI oc), .ref g5, .ref g6, .ref g7, .ref g8]))] st.heap.size = A at hD ⊢
  have hA : ∀ q : Nat, st.heap.size ≤ q → A q := fun q h => by rw [← hAe]; exact Or.inr h
  have hS : va_S A st.heap st.heap [] := va_S.rf
  have hl := lv_entry ([.ref o0, .long (lN e)]) (n := 3) (Nat.le_of_ble_eq_true rfl)
  rw [lg_entry_eq]
  generalize (lg_sl ([.ref o0, .long (lN e)]) ++ List.replicate (3 - (lg_sl ([.ref o0, .long (lN e)])).length) Slot.unset).toArray = ls at hl ⊢
  have hl : lv_has ls 3 [(0, .ref o0), (1, .long (lN e))] := hl
  refine lv_aload_n hx hb d_O_steps_0 rfl (lv_at hl 0 rfl) ?_
  refine lv_lload_n hx hb d_O_steps_1 rfl (lv_at hl 1 rfl) ?_
  refine lv_lconst (v := lN 0) hx hb d_O_steps_2 (by decide) ?_
  refine W.lcmp hx hb d_O_steps_3 ?_
  refine lv_if_ge (tgt := 11) hx hb d_O_steps_4 (by decide) (fun _ => ?_) (fun hc => absurd hc (fun z => absurd (lc_neg (by omega) z) (by omega)))
  refine lv_iconst (v := nI 0) hx hb d_O_steps_11 (by decide) ?_
  refine wq_i (wr := []) (va_runV (As := [.int (nI 0)]) (rest := []) ⟨hx, hb, hml, hown, hts⟩ (c_O_refused0 l dC dI cI cL st.heap.size o0 g1 g2 g3 g4 g5 g6 g7 g8 fl p n vr ir od cc gc oc) (cwV 1 hts (gi_V kw_588 kw_590 ks_O_refused kw_5 gi_O_refused) rfl rfl rfl ⟨rfl, by decide, by decide, by decide⟩ ⟨Nat.le_of_ble_eq_true rfl, Nat.le_of_ble_eq_true rfl⟩) (wq_preVW hP hD hK hN [0] rfl rfl (q0 := 0) (ci := 4) rfl rfl rfl) rfl rfl hl.1 rfl (lv_room (Nat.le_of_ble_eq_true rfl)) d_O_steps_12 ⟨Nat.le_of_ble_eq_true rfl, Nat.le_of_ble_eq_true rfl⟩) hP hD hS hA [0] [] rfl rfl rfl (by decide) (fun r u H locs hq hP hD hS hz => ?_)
  have hP : va_P (dC, dI) classes [(o0, .inr (4, [.int (nI 0), .long (lN p), .int (nI n), .long (lN vr), .int (nI ir), .long (lN od), .int (nI cc), .ref g1, .int (nI gc), .ref g2, .ref g3, .ref g4, .int (nI oc), .ref g5, .ref g6, .ref g7, .ref g8]))] H := hP
  have hD : va_D A [(o0, .inr (4, [.int (nI 0), .long (lN p), .int (nI n), .long (lN vr), .int (nI ir), .long (lN od), .int (nI cc), .ref g1, .int (nI gc), .ref g2, .ref g3, .ref g4, .int (nI oc), .ref g5, .ref g6, .ref g7, .ref g8]))] := hD
  subst hq
  refine lv_if_eq (tgt := 20) hx hb d_O_steps_15 (by decide) (fun _ => ?_) (fun hc => absurd hc (fun z => z rfl))
  refine lv_aload_n hx hb d_O_steps_20 rfl (lv_at hl 0 rfl) ?_
  refine lv_aload_n hx hb d_O_steps_21 rfl (lv_at hl 0 rfl) ?_
  refine lv_aload_n hx hb d_O_steps_22 rfl (lv_at hl 0 rfl) ?_
  refine va_get (D := (dC, dI)) (ci := 4) (v := .long (lN vr)) (C := R_O) (T := F_O) (N := 17) hx hb hts in_O hown hK hP 0 rfl rfl 3 (by decide) (hts _ kw_531) (fun _ h9 => h9) rfl d_O_steps_23 ?_
  refine lv_aload_n hx hb d_O_steps_26 rfl (lv_at hl 0 rfl) ?_
  refine lv_aload_n hx hb d_O_steps_27 rfl (lv_at hl 0 rfl) ?_
  refine lv_ldc2 (v := lN 2) hx hb hown (hts _ kw_612) d_O_steps_28 ?_
  refine vp_callSl (va_Run.run (va_runV (As := [.long (lN 2)]) (rest := [.ref o0, .long (lN vr), .ref o0, .ref o0]) ⟨hx, hb, hml, hown, hts⟩ (c_O_reduced l dC dI cI cL o0 g1 g2 g3 g4 g5 g6 g7 g8 0 p n vr ir od cc gc oc hm 2 (by decide)) (cwV 1 hts (gi_V kw_621 kw_623 ks_O_reduced kw_5 gi_O_reduced) rfl rfl rfl ⟨rfl, by decide, by decide, by decide⟩ ⟨Nat.le_of_ble_eq_true rfl, Nat.le_of_ble_eq_true rfl⟩) (wq_preVR hP hK hN [0] rfl (q0 := 0) (ci := 4) rfl rfl rfl) rfl rfl hl.1 rfl (lv_room (Nat.le_of_ble_eq_true rfl)) d_O_steps_31 ⟨Nat.le_of_ble_eq_true rfl, Nat.le_of_ble_eq_true rfl⟩)) (fun r hq => ?_)
  subst hq
  refine lv_lload_n hx hb d_O_steps_34 rfl (lv_at hl 1 rfl) ?_
  refine vp_callSl (va_Run.run (va_runV (As := [.long (lN (px_r p 2)), .long (lN e)]) (rest := [.long (lN vr), .ref o0, .ref o0]) ⟨hx, hb, hml, hown, hts⟩ (c_O_raised l dC dI cI cL o0 g1 g2 g3 g4 g5 g6 g7 g8 0 p n vr ir od cc gc oc hm (px_r p 2) e (px_r_lt hm 2) he) (cwV 2 hts (gi_V kw_617 kw_619 ks_O_raised kw_5 gi_O_raised) rfl rfl rfl ⟨rfl, by decide, by decide, by decide⟩ ⟨Nat.le_of_ble_eq_true rfl, Nat.le_of_ble_eq_true rfl⟩) (wq_preVR hP hK hN [0] rfl (q0 := 0) (ci := 4) rfl rfl rfl) rfl rfl hl.1 rfl (lv_room (Nat.le_of_ble_eq_true rfl)) d_O_steps_35 ⟨Nat.le_of_ble_eq_true rfl, Nat.le_of_ble_eq_true rfl⟩)) (fun r2 hq2 => ?_)
  subst hq2
  refine vp_callSl (va_Run.run (va_runV (As := [.long (lN vr), .long (lN (px_r p (px_pw (px_r p 2) e)))]) (rest := [.ref o0]) ⟨hx, hb, hml, hown, hts⟩ (c_O_product l dC dI cI cL o0 g1 g2 g3 g4 g5 g6 g7 g8 0 p n vr ir od cc gc oc hm vr _ hvr (px_r_lt hm _)) (cwV 2 hts (gi_V kw_604 kw_606 ks_O_product kw_5 gi_O_product) rfl rfl rfl ⟨rfl, by decide, by decide, by decide⟩ ⟨Nat.le_of_ble_eq_true rfl, Nat.le_of_ble_eq_true rfl⟩) (wq_preVR hP hK hN [0] rfl (q0 := 0) (ci := 4) rfl rfl rfl) rfl rfl hl.1 rfl (lv_room (Nat.le_of_ble_eq_true rfl)) d_O_steps_38 ⟨Nat.le_of_ble_eq_true rfl, Nat.le_of_ble_eq_true rfl⟩)) (fun r3 hq3 => ?_)
  subst hq3
  refine va_put (D := (dC, dI)) (ci := 4) (v := .long (lN (px_r p (px_m vr (px_r p (px_pw (px_r p 2) e)))))) (ty := .long) (C := R_O) (T := F_O) (N := 17) hx hb hts in_O t_O t_O_ok n_O hown hK hP hD hS 0 rfl rfl 3 (by decide) (hts _ kw_531) (fun _ h9 => h9) rfl (by decide +kernel) rfl rfl (Nat.le_of_ble_eq_true rfl) d_O_steps_41 (fun H locs hP hD hS => ?_)
  have hP : va_P (dC, dI) classes [(o0, .inr (4, [.int (nI 0), .long (lN p), .int (nI n), .long (lN (px_r p (px_m vr (px_r p (px_pw (px_r p 2) e))))), .int (nI ir), .long (lN od), .int (nI cc), .ref g1, .int (nI gc), .ref g2, .ref g3, .ref g4, .int (nI oc), .ref g5, .ref g6, .ref g7, .ref g8]))] H := hP
  have hD : va_D A [(o0, .inr (4, [.int (nI 0), .long (lN p), .int (nI n), .long (lN (px_r p (px_m vr (px_r p (px_pw (px_r p 2) e))))), .int (nI ir), .long (lN od), .int (nI cc), .ref g1, .int (nI gc), .ref g2, .ref g3, .ref g4, .int (nI oc), .ref g5, .ref g6, .ref g7, .ref g8]))] := hD
  refine lv_aload_n hx hb d_O_steps_44 rfl (lv_at hl 0 rfl) ?_
  refine va_get (D := (dC, dI)) (ci := 4) (v := .long (lN (px_r p (px_m vr (px_r p (px_pw (px_r p 2) e)))))) (C := R_O) (T := F_O) (N := 17) hx hb hts in_O hown hK hP 0 rfl rfl 3 (by decide) (hts _ kw_531) (fun _ h9 => h9) rfl d_O_steps_45 ?_
  have hP := hP.sub (ws' := [(o0, .inr (4, [.int (nI 0), .long (lN p), .int (nI n), .long (lN (px_r p (px_m vr (px_r p (px_pw (px_r p 2) e))))), .int (nI ir), .long (lN od), .int (nI cc), .ref g1, .int (nI gc), .ref g2, .ref g3, .ref g4, .int (nI oc), .ref g5, .ref g6, .ref g7, .ref g8]))]) [0] rfl
  have hD := hD.sub (ws' := [(o0, .inr (4, [.int (nI 0), .long (lN p), .int (nI n), .long (lN (px_r p (px_m vr (px_r p (px_pw (px_r p 2) e))))), .int (nI ir), .long (lN od), .int (nI cc), .ref g1, .int (nI gc), .ref g2, .ref g3, .ref g4, .int (nI oc), .ref g5, .ref g6, .ref g7, .ref g8]))]) [0] (by decide) rfl
  exact W.lret (v := lN (px_r p (px_m vr (px_r p (px_pw (px_r p 2) e))))) hx hb hr (fun t9 ht hW => ⟨⟨lN (px_r p (px_m vr (px_r p (px_pw (px_r p 2) e)))), (), rfl, rfl, by rw [ht]; exact hP, va_K.moved hW.alike hK, hD⟩, hS.F ht⟩) hS.2.2 d_O_steps_48
set_option maxHeartbeats 4000000 in
set_option maxRecDepth 100000 in
theorem c_O_stepsN (l : Launch) (dC : Nat → ClassId) (dI : Nat → Nat → Nat) (cI cL : ClassId) (sz : Nat) (o0 g1 g2 g3 g4 g5 g6 g7 g8 : Nat) (fl p n vr ir od cc gc oc : Nat) (e : Nat) (he2 : e < 2 ^ 64) (he : ¬ e < 2 ^ 63) : Met l y_O_steps w_O_steps ({ frames := 1, cells := 0, slots := 0, locals := 21 } : Room) (va_Pc [.ref o0, .long (lN e)] (wq_W (dC, dI) classes [(o0, .inr (4, [.int (nI fl), .long (lN p), .int (nI n), .long (lN vr), .int (nI ir), .long (lN od), .int (nI cc), .ref g1, .int (nI gc), .ref g2, .ref g3, .ref g4, .int (nI oc), .ref g5, .ref g6, .ref g7, .ref g8]))] [(cI, .int), (cL, .long)] sz)) (va_Ql (fun (r : Int64) (u : Unit) => r = lN 0) (fun (u : Unit) t => wq_B (dC, dI) classes [(cI, .int), (cL, .long)] (va_A [(o0, .inr (4, [.int (nI fl), .long (lN p), .int (nI n), .long (lN vr), .int (nI ir), .long (lN od), .int (nI cc), .ref g1, .int (nI gc), .ref g2, .ref g3, .ref g4, .int (nI oc), .ref g5, .ref g6, .ref g7, .ref g8]))] sz) [(o0, .inr (4, [.int (nI 1), .long (lN p), .int (nI n), .long (lN vr), .int (nI ir), .long (lN od), .int (nI cc), .ref g1, .int (nI gc), .ref g2, .ref g3, .ref g4, .int (nI oc), .ref g5, .ref g6, .ref g7, .ref g8]))] t) (va_A [(o0, .inr (4, [.int (nI fl), .long (lN p), .int (nI n), .long (lN vr), .int (nI ir), .long (lN od), .int (nI cc), .ref g1, .int (nI gc), .ref g2, .ref g3, .ref g4, .int (nI oc), .ref g5, .ref g6, .ref g7, .ref g8]))] sz)) 0 0 (va_A [(o0, .inr (4, [.int (nI fl), .long (lN p), .int (nI n), .long (lN vr), .int (nI ir), .long (lN od), .int (nI cc), .ref g1, .int (nI gc), .ref g2, .ref g3, .ref g4, .int (nI oc), .ref g5, .ref g6, .ref g7, .ref g8]))] sz) := by
  refine Met.ofW (cc := b_O_steps) (maxL := 3) (ret := (Option.some Jvm.ClassFile.FieldType.long)) (by decide) rfl ?_
  intro pg en st mm ar bw me co s₁ B hml hv
  obtain ⟨rfl, hsz, hP, hK, hD0, hN⟩ := hv
  have hx := B.exec
  have hb := B.bytes
  have hr := B.returns
  have hlocks := B.notSynchronized
  have hts0 := atoms_spec (ws := w_O_steps) B.pre
  have hts : ∀ w ∈ gw, w.before _ st = true := fun w h => hts0 w (List.mem_cons_of_mem _ h)
  have hown : st.vm.findClass R_O = some mm.cls := findClass_of_methodNamed B.named
  subst hsz
  have hD := hD0.self (sz := st.heap.size)
  generalize hAe : va_A [(o0, .inr (4, [.int (nI fl), .long (lN p), .int (nI n), .long (lN vr), .int (nI ir), .long (lN od), .int (nI cc), .ref g1, .int (nI gc), .ref g2, .ref g3, .ref g4, .int (nI oc), .ref g5, .ref g6, .ref g7, .ref g8]))] st.heap.size = A at hD ⊢
  have hA : ∀ q : Nat, st.heap.size ≤ q → A q := fun q h => by rw [← hAe]; exact Or.inr h
  have hS : va_S A st.heap st.heap [] := va_S.rf
  have hl := lv_entry ([.ref o0, .long (lN e)]) (n := 3) (Nat.le_of_ble_eq_true rfl)
  rw [lg_entry_eq]
  generalize (lg_sl ([.ref o0, .long (lN e)]) ++ List.replicate (3 - (lg_sl ([.ref o0, .long (lN e)])).length) Slot.unset).toArray = ls at hl ⊢
  have hl : lv_has ls 3 [(0, .ref o0), (1, .long (lN e))] := hl
  refine lv_aload_n hx hb d_O_steps_0 rfl (lv_at hl 0 rfl) ?_
  refine lv_lload_n hx hb d_O_steps_1 rfl (lv_at hl 1 rfl) ?_
  refine lv_lconst (v := lN 0) hx hb d_O_steps_2 (by decide) ?_
  refine W.lcmp hx hb d_O_steps_3 ?_
  refine lv_if_ge (tgt := 11) hx hb d_O_steps_4 (by decide) (fun hc => absurd hc (fun z => lc_ge he2 (by omega) z)) (fun _ => ?_)
  refine lv_iconst (v := nI 1) hx hb d_O_steps_7 (by decide) ?_
  refine lv_goto (tgt := 12) hx hb d_O_steps_8 (by decide) ?_
  refine wq_i (wr := []) (va_runV (As := [.int (nI 1)]) (rest := []) ⟨hx, hb, hml, hown, hts⟩ (c_O_refusedK l dC dI cI cL st.heap.size o0 g1 g2 g3 g4 g5 g6 g7 g8 fl p n vr ir od cc gc oc 1 (by decide) (by decide)) (cwV 1 hts (gi_V kw_588 kw_590 ks_O_refused kw_5 gi_O_refused) rfl rfl rfl ⟨rfl, by decide, by decide, by decide⟩ ⟨Nat.le_of_ble_eq_true rfl, Nat.le_of_ble_eq_true rfl⟩) (wq_preVW hP hD hK hN [0] rfl rfl (q0 := 0) (ci := 4) rfl rfl rfl) rfl rfl hl.1 rfl (lv_room (Nat.le_of_ble_eq_true rfl)) d_O_steps_12 ⟨Nat.le_of_ble_eq_true rfl, Nat.le_of_ble_eq_true rfl⟩) hP hD hS hA [0] [] rfl rfl rfl (by decide) (fun r u H locs hq hP hD hS hz => ?_)
  have hP : va_P (dC, dI) classes [(o0, .inr (4, [.int (nI 1), .long (lN p), .int (nI n), .long (lN vr), .int (nI ir), .long (lN od), .int (nI cc), .ref g1, .int (nI gc), .ref g2, .ref g3, .ref g4, .int (nI oc), .ref g5, .ref g6, .ref g7, .ref g8]))] H := hP
  have hD : va_D A [(o0, .inr (4, [.int (nI 1), .long (lN p), .int (nI n), .long (lN vr), .int (nI ir), .long (lN od), .int (nI cc), .ref g1, .int (nI gc), .ref g2, .ref g3, .ref g4, .int (nI oc), .ref g5, .ref g6, .ref g7, .ref g8]))] := hD
  subst hq
  refine lv_if_eq (tgt := 20) hx hb d_O_steps_15 (by decide) (fun hc => absurd hc (show ¬ (1 : Int32) = 0 from by decide)) (fun _ => ?_)
  refine lv_lconst (v := lN 0) hx hb d_O_steps_18 (by decide) ?_
  have hP := hP.sub (ws' := [(o0, .inr (4, [.int (nI 1), .long (lN p), .int (nI n), .long (lN vr), .int (nI ir), .long (lN od), .int (nI cc), .ref g1, .int (nI gc), .ref g2, .ref g3, .ref g4, .int (nI oc), .ref g5, .ref g6, .ref g7, .ref g8]))]) [0] rfl
  have hD := hD.sub (ws' := [(o0, .inr (4, [.int (nI 1), .long (lN p), .int (nI n), .long (lN vr), .int (nI ir), .long (lN od), .int (nI cc), .ref g1, .int (nI gc), .ref g2, .ref g3, .ref g4, .int (nI oc), .ref g5, .ref g6, .ref g7, .ref g8]))]) [0] (by decide) rfl
  exact W.lret (v := lN 0) hx hb hr (fun t9 ht hW => ⟨⟨lN 0, (), rfl, rfl, by rw [ht]; exact hP, va_K.moved hW.alike hK, hD⟩, hS.F ht⟩) hS.2.2 d_O_steps_19
set_option maxHeartbeats 4000000 in
set_option maxRecDepth 100000 in
theorem c_O_channelY (l : Launch) (dC : Nat → ClassId) (dI : Nat → Nat → Nat) (cI cL : ClassId) (sz : Nat) (o0 g1 g2 g3 g4 g5 g6 g7 g8 : Nat) (fl p n vr ir od cc gc oc : Nat) (hm : md p n) (mk : Nat → Nat) (a : Nat) (ha : a < 2 ^ n) (hcc : cc < 8) : Met l y_O_channel w_O_channel ({ frames := 1, cells := 0, slots := 0, locals := 22 } : Room) (va_Pc [.ref o0, .long (lN a)] (wq_W (dC, dI) classes [(o0, .inr (4, [.int (nI fl), .long (lN p), .int (nI n), .long (lN vr), .int (nI ir), .long (lN od), .int (nI cc), .ref g1, .int (nI gc), .ref g2, .ref g3, .ref g4, .int (nI oc), .ref g5, .ref g6, .ref g7, .ref g8])), (g1, .inl (cL, 8, .inr (.inl (fun c => lN (mk c)))))] [(cI, .int), (cL, .long)] sz)) (va_Qi (fun (r : Int32) (u : Unit) => r = nI cc) (fun (u : Unit) t => wq_B (dC, dI) classes [(cI, .int), (cL, .long)] (va_A [(o0, .inr (4, [.int (nI fl), .long (lN p), .int (nI n), .long (lN vr), .int (nI ir), .long (lN od), .int (nI cc), .ref g1, .int (nI gc), .ref g2, .ref g3, .ref g4, .int (nI oc), .ref g5, .ref g6, .ref g7, .ref g8])), (g1, .inl (cL, 8, .inr (.inl (fun c => lN (mk c)))))] sz) [(o0, .inr (4, [.int (nI 0), .long (lN p), .int (nI n), .long (lN vr), .int (nI ir), .long (lN od), .int (nI (cc + 1)), .ref g1, .int (nI 0), .ref g2, .ref g3, .ref g4, .int (nI 0), .ref g5, .ref g6, .ref g7, .ref g8])), (g1, .inl (cL, 8, .inr (.inl (fun c => lN ((va_up mk cc a) c)))))] t) (va_A [(o0, .inr (4, [.int (nI fl), .long (lN p), .int (nI n), .long (lN vr), .int (nI ir), .long (lN od), .int (nI cc), .ref g1, .int (nI gc), .ref g2, .ref g3, .ref g4, .int (nI oc), .ref g5, .ref g6, .ref g7, .ref g8])), (g1, .inl (cL, 8, .inr (.inl (fun c => lN (mk c)))))] sz)) 0 0 (va_A [(o0, .inr (4, [.int (nI fl), .long (lN p), .int (nI n), .long (lN vr), .int (nI ir), .long (lN od), .int (nI cc), .ref g1, .int (nI gc), .ref g2, .ref g3, .ref g4, .int (nI oc), .ref g5, .ref g6, .ref g7, .ref g8])), (g1, .inl (cL, 8, .inr (.inl (fun c => lN (mk c)))))] sz) := by
  refine Met.ofW (cc := b_O_channel) (maxL := 3) (ret := (Option.some Jvm.ClassFile.FieldType.int)) (by decide) rfl ?_
  intro pg en st mm ar bw me co s₁ B hml hv
  obtain ⟨rfl, hsz, hP, hK, hD0, hN⟩ := hv
  have hx := B.exec
  have hb := B.bytes
  have hr := B.returns
  have hlocks := B.notSynchronized
  have hts0 := atoms_spec (ws := w_O_channel) B.pre
  have hts : ∀ w ∈ gw, w.before _ st = true := fun w h => hts0 w (List.mem_cons_of_mem _ h)
  have hown : st.vm.findClass R_O = some mm.cls := findClass_of_methodNamed B.named
  subst hsz
  have hD := hD0.self (sz := st.heap.size)
  generalize hAe : va_A [(o0, .inr (4, [.int (nI fl), .long (lN p), .int (nI n), .long (lN vr), .int (nI ir), .long (lN od), .int (nI cc), .ref g1, .int (nI gc), .ref g2, .ref g3, .ref g4, .int (nI oc), .ref g5, .ref g6, .ref g7, .ref g8])), (g1, .inl (cL, 8, .inr (.inl (fun c => lN (mk c)))))] st.heap.size = A at hD ⊢
  have hA : ∀ q : Nat, st.heap.size ≤ q → A q := fun q h => by rw [← hAe]; exact Or.inr h
  have hS : va_S A st.heap st.heap [] := va_S.rf
  have hl := lv_entry ([.ref o0, .long (lN a)]) (n := 3) (Nat.le_of_ble_eq_true rfl)
  rw [lg_entry_eq]
  generalize (lg_sl ([.ref o0, .long (lN a)]) ++ List.replicate (3 - (lg_sl ([.ref o0, .long (lN a)])).length) Slot.unset).toArray = ls at hl ⊢
  have hl : lv_has ls 3 [(0, .ref o0), (1, .long (lN a))] := hl
  refine lv_aload_n hx hb d_O_channel_0 rfl (lv_at hl 0 rfl) ?_
  refine lv_aload_n hx hb d_O_channel_1 rfl (lv_at hl 0 rfl) ?_
  refine lv_lload_n hx hb d_O_channel_2 rfl (lv_at hl 1 rfl) ?_
  refine vp_callSi (va_Run.run (va_runV (As := [.long (lN a)]) (rest := [.ref o0]) ⟨hx, hb, hml, hown, hts⟩ (c_O_isResidue l dC dI cI cL o0 g1 g2 g3 g4 g5 g6 g7 g8 fl p n vr ir od cc gc oc hm a (by have := res_lt hm ha; omega)) (cwV 1 hts (gi_V kw_600 kw_602 ks_O_isResidue kw_5 gi_O_isResidue) rfl rfl rfl ⟨rfl, by decide, by decide, by decide⟩ ⟨Nat.le_of_ble_eq_true rfl, Nat.le_of_ble_eq_true rfl⟩) (wq_preVR hP hK hN [0] rfl (q0 := 0) (ci := 4) rfl rfl rfl) rfl rfl hl.1 rfl (lv_room (Nat.le_of_ble_eq_true rfl)) d_O_channel_3 ⟨Nat.le_of_ble_eq_true rfl, Nat.le_of_ble_eq_true rfl⟩)) (fun r hq => ?_)
  rw [if_pos ha] at hq
  subst hq
  refine lv_if_ne (tgt := 13) hx hb d_O_channel_6 (by decide) (fun _ => ?_) (fun hc => absurd hc (show ¬ (1 : Int32) = 0 from by decide))
  refine lv_aload_n hx hb d_O_channel_13 rfl (lv_at hl 0 rfl) ?_
  refine va_get (D := (dC, dI)) (ci := 4) (v := .int (nI cc)) (C := R_O) (T := F_O) (N := 17) hx hb hts in_O hown hK hP 0 rfl rfl 6 (by decide) (hts _ kw_534) (fun _ h9 => h9) rfl d_O_channel_14 ?_
  refine lv_bipush (v := nI 8) hx hb d_O_channel_17 (by decide) ?_
  refine lv_icmp_ne (tgt := 26) hx hb d_O_channel_19 (by decide) (fun _ => ?_) (fun hc => absurd hc ((by decide +kernel : ∀ k, k < 8 → ¬ nI k = nI 8) cc hcc))
  refine lv_iconst (v := nI 0) hx hb d_O_channel_26 (by decide) ?_
  refine wq_i (wr := [(g1, .inl (cL, 8, .inr (.inl (fun c => lN (mk c)))))]) (va_runV (As := [.int (nI 0)]) (rest := []) ⟨hx, hb, hml, hown, hts⟩ (c_O_refused0 l dC dI cI cL st.heap.size o0 g1 g2 g3 g4 g5 g6 g7 g8 fl p n vr ir od cc gc oc) (cwV 1 hts (gi_V kw_588 kw_590 ks_O_refused kw_5 gi_O_refused) rfl rfl rfl ⟨rfl, by decide, by decide, by decide⟩ ⟨Nat.le_of_ble_eq_true rfl, Nat.le_of_ble_eq_true rfl⟩) (wq_preVW hP hD hK hN [0] rfl rfl (q0 := 0) (ci := 4) rfl rfl rfl) rfl rfl hl.1 rfl (lv_room (Nat.le_of_ble_eq_true rfl)) d_O_channel_27 ⟨Nat.le_of_ble_eq_true rfl, Nat.le_of_ble_eq_true rfl⟩) hP hD hS hA [0] [1] rfl rfl rfl (by decide) (fun r u H locs hq hP hD hS hz => ?_)
  have hP : va_P (dC, dI) classes [(g1, .inl (cL, 8, .inr (.inl (fun c => lN (mk c))))), (o0, .inr (4, [.int (nI 0), .long (lN p), .int (nI n), .long (lN vr), .int (nI ir), .long (lN od), .int (nI cc), .ref g1, .int (nI gc), .ref g2, .ref g3, .ref g4, .int (nI oc), .ref g5, .ref g6, .ref g7, .ref g8]))] H := hP
  have hD : va_D A [(g1, .inl (cL, 8, .inr (.inl (fun c => lN (mk c))))), (o0, .inr (4, [.int (nI 0), .long (lN p), .int (nI n), .long (lN vr), .int (nI ir), .long (lN od), .int (nI cc), .ref g1, .int (nI gc), .ref g2, .ref g3, .ref g4, .int (nI oc), .ref g5, .ref g6, .ref g7, .ref g8]))] := hD
  subst hq
  refine lv_if_eq (tgt := 35) hx hb d_O_channel_30 (by decide) (fun _ => ?_) (fun hc => absurd hc (fun z => z rfl))
  refine lv_aload_n hx hb d_O_channel_35 rfl (lv_at hl 0 rfl) ?_
  refine va_get (D := (dC, dI)) (ci := 4) (v := .ref g1) (C := R_O) (T := F_O) (N := 17) hx hb hts in_O hown hK hP 1 rfl rfl 7 (by decide) (hts _ kw_535) (fun _ h9 => h9) rfl d_O_channel_36 ?_
  refine lv_aload_n hx hb d_O_channel_39 rfl (lv_at hl 0 rfl) ?_
  refine va_get (D := (dC, dI)) (ci := 4) (v := .int (nI cc)) (C := R_O) (T := F_O) (N := 17) hx hb hts in_O hown hK hP 1 rfl rfl 6 (by decide) (hts _ kw_534) (fun _ h9 => h9) rfl d_O_channel_40 ?_
  refine lv_lload_n hx hb d_O_channel_43 rfl (lv_at hl 1 rfl) ?_
  refine va_last (D := (dC, dI)) (i := (nI cc)) (x := (lN a)) hx hb hK hP hD hS 0 1 rfl rfl (vp_in_nI (by omega) (by decide)) d_O_channel_44 (fun H locs hP hD hS => ?_)
  rw [nI_clamp (by omega), updL_lN] at hP hD
  have hP : va_P (dC, dI) classes [(g1, .inl (cL, 8, .inr (.inl (fun c => lN ((va_up mk cc a) c))))), (o0, .inr (4, [.int (nI 0), .long (lN p), .int (nI n), .long (lN vr), .int (nI ir), .long (lN od), .int (nI cc), .ref g1, .int (nI gc), .ref g2, .ref g3, .ref g4, .int (nI oc), .ref g5, .ref g6, .ref g7, .ref g8]))] H := hP
  have hD : va_D A [(g1, .inl (cL, 8, .inr (.inl (fun c => lN ((va_up mk cc a) c))))), (o0, .inr (4, [.int (nI 0), .long (lN p), .int (nI n), .long (lN vr), .int (nI ir), .long (lN od), .int (nI cc), .ref g1, .int (nI gc), .ref g2, .ref g3, .ref g4, .int (nI oc), .ref g5, .ref g6, .ref g7, .ref g8]))] := hD
  refine lv_aload_n hx hb d_O_channel_45 rfl (lv_at hl 0 rfl) ?_
  refine lv_dup hx hb d_O_channel_46 rfl ?_
  refine va_get (D := (dC, dI)) (ci := 4) (v := .int (nI cc)) (C := R_O) (T := F_O) (N := 17) hx hb hts in_O hown hK hP 1 rfl rfl 6 (by decide) (hts _ kw_534) (fun _ h9 => h9) rfl d_O_channel_47 ?_
  refine lv_iconst (v := nI 1) hx hb d_O_channel_50 (by decide) ?_
  refine lv_iadd hx hb d_O_channel_51 ?_
  refine lv_topi (nm_r (show _ = nI (cc + 1) from nI_add cc 1) ?_)
  refine va_put (D := (dC, dI)) (ci := 4) (v := .int (nI (cc + 1))) (ty := .int) (C := R_O) (T := F_O) (N := 17) hx hb hts in_O t_O t_O_ok n_O hown hK hP hD hS 1 rfl rfl 6 (by decide) (hts _ kw_534) (fun _ h9 => h9) rfl (by decide +kernel) rfl rfl (Nat.le_of_ble_eq_true rfl) d_O_channel_52 (fun H locs hP hD hS => ?_)
  have hP : va_P (dC, dI) classes [(g1, .inl (cL, 8, .inr (.inl (fun c => lN ((va_up mk cc a) c))))), (o0, .inr (4, [.int (nI 0), .long (lN p), .int (nI n), .long (lN vr), .int (nI ir), .long (lN od), .int (nI (cc + 1)), .ref g1, .int (nI gc), .ref g2, .ref g3, .ref g4, .int (nI oc), .ref g5, .ref g6, .ref g7, .ref g8]))] H := hP
  have hD : va_D A [(g1, .inl (cL, 8, .inr (.inl (fun c => lN ((va_up mk cc a) c))))), (o0, .inr (4, [.int (nI 0), .long (lN p), .int (nI n), .long (lN vr), .int (nI ir), .long (lN od), .int (nI (cc + 1)), .ref g1, .int (nI gc), .ref g2, .ref g3, .ref g4, .int (nI oc), .ref g5, .ref g6, .ref g7, .ref g8]))] := hD
  refine lv_aload_n hx hb d_O_channel_55 rfl (lv_at hl 0 rfl) ?_
  refine wq_v (wr := [(g1, .inl (cL, 8, .inr (.inl (fun c => lN ((va_up mk cc a) c)))))]) (va_runV (As := []) (rest := []) ⟨hx, hb, hml, hown, hts⟩ (c_O_clearCircuit l dC dI cI cL H.size o0 g1 g2 g3 g4 g5 g6 g7 g8 0 p n vr ir od (cc + 1) gc oc) (cwV 0 hts (gi_V kw_592 kw_594 ks_O_clearCircuit kw_5 gi_O_clearCircuit) rfl rfl rfl ⟨rfl, by decide, by decide, by decide⟩ ⟨Nat.le_of_ble_eq_true rfl, Nat.le_of_ble_eq_true rfl⟩) (wq_preVW hP hD hK hN [1] rfl rfl (q0 := 1) (ci := 4) rfl rfl rfl) rfl rfl hl.1 rfl (lv_room (Nat.le_of_ble_eq_true rfl)) d_O_channel_56 ⟨Nat.le_of_ble_eq_true rfl, Nat.le_of_ble_eq_true rfl⟩) hP hD hS hA [1] [0] rfl rfl rfl (by decide) (fun u H locs hq2 hP hD hS hz => ?_)
  have hP : va_P (dC, dI) classes [(g1, .inl (cL, 8, .inr (.inl (fun c => lN ((va_up mk cc a) c))))), (o0, .inr (4, [.int (nI 0), .long (lN p), .int (nI n), .long (lN vr), .int (nI ir), .long (lN od), .int (nI (cc + 1)), .ref g1, .int (nI 0), .ref g2, .ref g3, .ref g4, .int (nI 0), .ref g5, .ref g6, .ref g7, .ref g8]))] H := hP
  have hD : va_D A [(g1, .inl (cL, 8, .inr (.inl (fun c => lN ((va_up mk cc a) c))))), (o0, .inr (4, [.int (nI 0), .long (lN p), .int (nI n), .long (lN vr), .int (nI ir), .long (lN od), .int (nI (cc + 1)), .ref g1, .int (nI 0), .ref g2, .ref g3, .ref g4, .int (nI 0), .ref g5, .ref g6, .ref g7, .ref g8]))] := hD
  refine lv_aload_n hx hb d_O_channel_59 rfl (lv_at hl 0 rfl) ?_
  refine va_get (D := (dC, dI)) (ci := 4) (v := .int (nI (cc + 1))) (C := R_O) (T := F_O) (N := 17) hx hb hts in_O hown hK hP 1 rfl rfl 6 (by decide) (hts _ kw_534) (fun _ h9 => h9) rfl d_O_channel_60 ?_
  refine lv_iconst (v := nI 1) hx hb d_O_channel_63 (by decide) ?_
  refine lv_isub hx hb d_O_channel_64 ?_
  refine lv_topi (nm_r (show _ = nI cc from nI_pred cc) ?_)
  have hP := hP.sub (ws' := [(o0, .inr (4, [.int (nI 0), .long (lN p), .int (nI n), .long (lN vr), .int (nI ir), .long (lN od), .int (nI (cc + 1)), .ref g1, .int (nI 0), .ref g2, .ref g3, .ref g4, .int (nI 0), .ref g5, .ref g6, .ref g7, .ref g8])), (g1, .inl (cL, 8, .inr (.inl (fun c => lN ((va_up mk cc a) c)))))]) [1, 0] rfl
  have hD := hD.sub (ws' := [(o0, .inr (4, [.int (nI 0), .long (lN p), .int (nI n), .long (lN vr), .int (nI ir), .long (lN od), .int (nI (cc + 1)), .ref g1, .int (nI 0), .ref g2, .ref g3, .ref g4, .int (nI 0), .ref g5, .ref g6, .ref g7, .ref g8])), (g1, .inl (cL, 8, .inr (.inl (fun c => lN ((va_up mk cc a) c)))))]) [1, 0] (by decide) rfl
  exact W.iret (v := nI cc) hx hb hr (fun t9 ht hW => ⟨⟨nI cc, (), rfl, rfl, by rw [ht]; exact hP, va_K.moved hW.alike hK, hD⟩, hS.F ht⟩) hS.2.2 d_O_channel_65
set_option maxHeartbeats 4000000 in
set_option maxRecDepth 100000 in
theorem c_O_channelN (l : Launch) (dC : Nat → ClassId) (dI : Nat → Nat → Nat) (cI cL : ClassId) (sz : Nat) (o0 g1 g2 g3 g4 g5 g6 g7 g8 : Nat) (fl p n vr ir od cc gc oc : Nat) (hm : md p n) (a : Nat) (ha2 : a < 2 ^ 64) (ha : ¬ a < 2 ^ n) : Met l y_O_channel w_O_channel ({ frames := 1, cells := 0, slots := 0, locals := 22 } : Room) (va_Pc [.ref o0, .long (lN a)] (wq_W (dC, dI) classes [(o0, .inr (4, [.int (nI fl), .long (lN p), .int (nI n), .long (lN vr), .int (nI ir), .long (lN od), .int (nI cc), .ref g1, .int (nI gc), .ref g2, .ref g3, .ref g4, .int (nI oc), .ref g5, .ref g6, .ref g7, .ref g8]))] [(cI, .int), (cL, .long)] sz)) (va_Qi (fun (r : Int32) (u : Unit) => r = nI 0) (fun (u : Unit) t => wq_B (dC, dI) classes [(cI, .int), (cL, .long)] (va_A [(o0, .inr (4, [.int (nI fl), .long (lN p), .int (nI n), .long (lN vr), .int (nI ir), .long (lN od), .int (nI cc), .ref g1, .int (nI gc), .ref g2, .ref g3, .ref g4, .int (nI oc), .ref g5, .ref g6, .ref g7, .ref g8]))] sz) [(o0, .inr (4, [.int (nI 1), .long (lN p), .int (nI n), .long (lN vr), .int (nI ir), .long (lN od), .int (nI cc), .ref g1, .int (nI gc), .ref g2, .ref g3, .ref g4, .int (nI oc), .ref g5, .ref g6, .ref g7, .ref g8]))] t) (va_A [(o0, .inr (4, [.int (nI fl), .long (lN p), .int (nI n), .long (lN vr), .int (nI ir), .long (lN od), .int (nI cc), .ref g1, .int (nI gc), .ref g2, .ref g3, .ref g4, .int (nI oc), .ref g5, .ref g6, .ref g7, .ref g8]))] sz)) 0 0 (va_A [(o0, .inr (4, [.int (nI fl), .long (lN p), .int (nI n), .long (lN vr), .int (nI ir), .long (lN od), .int (nI cc), .ref g1, .int (nI gc), .ref g2, .ref g3, .ref g4, .int (nI oc), .ref g5, .ref g6, .ref g7, .ref g8]))] sz) := by
  refine Met.ofW (cc := b_O_channel) (maxL := 3) (ret := (Option.some Jvm.ClassFile.FieldType.int)) (by decide) rfl ?_
  intro pg en st mm ar bw me co s₁ B hml hv
  obtain ⟨rfl, hsz, hP, hK, hD0, hN⟩ := hv
  have hx := B.exec
  have hb := B.bytes
  have hr := B.returns
  have hlocks := B.notSynchronized
  have hts0 := atoms_spec (ws := w_O_channel) B.pre
  have hts : ∀ w ∈ gw, w.before _ st = true := fun w h => hts0 w (List.mem_cons_of_mem _ h)
  have hown : st.vm.findClass R_O = some mm.cls := findClass_of_methodNamed B.named
  subst hsz
  have hD := hD0.self (sz := st.heap.size)
  generalize hAe : va_A [(o0, .inr (4, [.int (nI fl), .long (lN p), .int (nI n), .long (lN vr), .int (nI ir), .long (lN od), .int (nI cc), .ref g1, .int (nI gc), .ref g2, .ref g3, .ref g4, .int (nI oc), .ref g5, .ref g6, .ref g7, .ref g8]))] st.heap.size = A at hD ⊢
  have hA : ∀ q : Nat, st.heap.size ≤ q → A q := fun q h => by rw [← hAe]; exact Or.inr h
  have hS : va_S A st.heap st.heap [] := va_S.rf
  have hl := lv_entry ([.ref o0, .long (lN a)]) (n := 3) (Nat.le_of_ble_eq_true rfl)
  rw [lg_entry_eq]
  generalize (lg_sl ([.ref o0, .long (lN a)]) ++ List.replicate (3 - (lg_sl ([.ref o0, .long (lN a)])).length) Slot.unset).toArray = ls at hl ⊢
  have hl : lv_has ls 3 [(0, .ref o0), (1, .long (lN a))] := hl
  refine lv_aload_n hx hb d_O_channel_0 rfl (lv_at hl 0 rfl) ?_
  refine lv_aload_n hx hb d_O_channel_1 rfl (lv_at hl 0 rfl) ?_
  refine lv_lload_n hx hb d_O_channel_2 rfl (lv_at hl 1 rfl) ?_
  refine vp_callSi (va_Run.run (va_runV (As := [.long (lN a)]) (rest := [.ref o0]) ⟨hx, hb, hml, hown, hts⟩ (c_O_isResidue l dC dI cI cL o0 g1 g2 g3 g4 g5 g6 g7 g8 fl p n vr ir od cc gc oc hm a ha2) (cwV 1 hts (gi_V kw_600 kw_602 ks_O_isResidue kw_5 gi_O_isResidue) rfl rfl rfl ⟨rfl, by decide, by decide, by decide⟩ ⟨Nat.le_of_ble_eq_true rfl, Nat.le_of_ble_eq_true rfl⟩) (wq_preVR hP hK hN [0] rfl (q0 := 0) (ci := 4) rfl rfl rfl) rfl rfl hl.1 rfl (lv_room (Nat.le_of_ble_eq_true rfl)) d_O_channel_3 ⟨Nat.le_of_ble_eq_true rfl, Nat.le_of_ble_eq_true rfl⟩)) (fun r hq => ?_)
  rw [if_neg ha] at hq
  subst hq
  refine lv_if_ne (tgt := 13) hx hb d_O_channel_6 (by decide) (fun hc => absurd hc (fun z => z rfl)) (fun _ => ?_)
  refine lv_iconst (v := nI 1) hx hb d_O_channel_9 (by decide) ?_
  refine lv_goto (tgt := 27) hx hb d_O_channel_10 (by decide) ?_
  refine wq_i (wr := []) (va_runV (As := [.int (nI 1)]) (rest := []) ⟨hx, hb, hml, hown, hts⟩ (c_O_refusedK l dC dI cI cL st.heap.size o0 g1 g2 g3 g4 g5 g6 g7 g8 fl p n vr ir od cc gc oc 1 (by decide) (by decide)) (cwV 1 hts (gi_V kw_588 kw_590 ks_O_refused kw_5 gi_O_refused) rfl rfl rfl ⟨rfl, by decide, by decide, by decide⟩ ⟨Nat.le_of_ble_eq_true rfl, Nat.le_of_ble_eq_true rfl⟩) (wq_preVW hP hD hK hN [0] rfl rfl (q0 := 0) (ci := 4) rfl rfl rfl) rfl rfl hl.1 rfl (lv_room (Nat.le_of_ble_eq_true rfl)) d_O_channel_27 ⟨Nat.le_of_ble_eq_true rfl, Nat.le_of_ble_eq_true rfl⟩) hP hD hS hA [0] [] rfl rfl rfl (by decide) (fun r u H locs hq hP hD hS hz => ?_)
  have hP : va_P (dC, dI) classes [(o0, .inr (4, [.int (nI 1), .long (lN p), .int (nI n), .long (lN vr), .int (nI ir), .long (lN od), .int (nI cc), .ref g1, .int (nI gc), .ref g2, .ref g3, .ref g4, .int (nI oc), .ref g5, .ref g6, .ref g7, .ref g8]))] H := hP
  have hD : va_D A [(o0, .inr (4, [.int (nI 1), .long (lN p), .int (nI n), .long (lN vr), .int (nI ir), .long (lN od), .int (nI cc), .ref g1, .int (nI gc), .ref g2, .ref g3, .ref g4, .int (nI oc), .ref g5, .ref g6, .ref g7, .ref g8]))] := hD
  subst hq
  refine lv_if_eq (tgt := 35) hx hb d_O_channel_30 (by decide) (fun hc => absurd hc (show ¬ (1 : Int32) = 0 from by decide)) (fun _ => ?_)
  refine lv_iconst (v := nI 0) hx hb d_O_channel_33 (by decide) ?_
  have hP := hP.sub (ws' := [(o0, .inr (4, [.int (nI 1), .long (lN p), .int (nI n), .long (lN vr), .int (nI ir), .long (lN od), .int (nI cc), .ref g1, .int (nI gc), .ref g2, .ref g3, .ref g4, .int (nI oc), .ref g5, .ref g6, .ref g7, .ref g8]))]) [0] rfl
  have hD := hD.sub (ws' := [(o0, .inr (4, [.int (nI 1), .long (lN p), .int (nI n), .long (lN vr), .int (nI ir), .long (lN od), .int (nI cc), .ref g1, .int (nI gc), .ref g2, .ref g3, .ref g4, .int (nI oc), .ref g5, .ref g6, .ref g7, .ref g8]))]) [0] (by decide) rfl
  exact W.iret (v := nI 0) hx hb hr (fun t9 ht hW => ⟨⟨nI 0, (), rfl, rfl, by rw [ht]; exact hP, va_K.moved hW.alike hK, hD⟩, hS.F ht⟩) hS.2.2 d_O_channel_34
set_option maxHeartbeats 4000000 in
set_option maxRecDepth 100000 in
theorem c_O_channelF (l : Launch) (dC : Nat → ClassId) (dI : Nat → Nat → Nat) (cI cL : ClassId) (sz : Nat) (o0 g1 g2 g3 g4 g5 g6 g7 g8 : Nat) (fl p n vr ir od cc gc oc : Nat) (hm : md p n) (a : Nat) (ha : a < 2 ^ n) (hcc : cc = 8) : Met l y_O_channel w_O_channel ({ frames := 1, cells := 0, slots := 0, locals := 22 } : Room) (va_Pc [.ref o0, .long (lN a)] (wq_W (dC, dI) classes [(o0, .inr (4, [.int (nI fl), .long (lN p), .int (nI n), .long (lN vr), .int (nI ir), .long (lN od), .int (nI cc), .ref g1, .int (nI gc), .ref g2, .ref g3, .ref g4, .int (nI oc), .ref g5, .ref g6, .ref g7, .ref g8]))] [(cI, .int), (cL, .long)] sz)) (va_Qi (fun (r : Int32) (u : Unit) => r = nI 0) (fun (u : Unit) t => wq_B (dC, dI) classes [(cI, .int), (cL, .long)] (va_A [(o0, .inr (4, [.int (nI fl), .long (lN p), .int (nI n), .long (lN vr), .int (nI ir), .long (lN od), .int (nI cc), .ref g1, .int (nI gc), .ref g2, .ref g3, .ref g4, .int (nI oc), .ref g5, .ref g6, .ref g7, .ref g8]))] sz) [(o0, .inr (4, [.int (nI 2), .long (lN p), .int (nI n), .long (lN vr), .int (nI ir), .long (lN od), .int (nI cc), .ref g1, .int (nI gc), .ref g2, .ref g3, .ref g4, .int (nI oc), .ref g5, .ref g6, .ref g7, .ref g8]))] t) (va_A [(o0, .inr (4, [.int (nI fl), .long (lN p), .int (nI n), .long (lN vr), .int (nI ir), .long (lN od), .int (nI cc), .ref g1, .int (nI gc), .ref g2, .ref g3, .ref g4, .int (nI oc), .ref g5, .ref g6, .ref g7, .ref g8]))] sz)) 0 0 (va_A [(o0, .inr (4, [.int (nI fl), .long (lN p), .int (nI n), .long (lN vr), .int (nI ir), .long (lN od), .int (nI cc), .ref g1, .int (nI gc), .ref g2, .ref g3, .ref g4, .int (nI oc), .ref g5, .ref g6, .ref g7, .ref g8]))] sz) := by
  refine Met.ofW (cc := b_O_channel) (maxL := 3) (ret := (Option.some Jvm.ClassFile.FieldType.int)) (by decide) rfl ?_
  intro pg en st mm ar bw me co s₁ B hml hv
  obtain ⟨rfl, hsz, hP, hK, hD0, hN⟩ := hv
  have hx := B.exec
  have hb := B.bytes
  have hr := B.returns
  have hlocks := B.notSynchronized
  have hts0 := atoms_spec (ws := w_O_channel) B.pre
  have hts : ∀ w ∈ gw, w.before _ st = true := fun w h => hts0 w (List.mem_cons_of_mem _ h)
  have hown : st.vm.findClass R_O = some mm.cls := findClass_of_methodNamed B.named
  subst hsz
  have hD := hD0.self (sz := st.heap.size)
  generalize hAe : va_A [(o0, .inr (4, [.int (nI fl), .long (lN p), .int (nI n), .long (lN vr), .int (nI ir), .long (lN od), .int (nI cc), .ref g1, .int (nI gc), .ref g2, .ref g3, .ref g4, .int (nI oc), .ref g5, .ref g6, .ref g7, .ref g8]))] st.heap.size = A at hD ⊢
  have hA : ∀ q : Nat, st.heap.size ≤ q → A q := fun q h => by rw [← hAe]; exact Or.inr h
  have hS : va_S A st.heap st.heap [] := va_S.rf
  have hl := lv_entry ([.ref o0, .long (lN a)]) (n := 3) (Nat.le_of_ble_eq_true rfl)
  rw [lg_entry_eq]
  generalize (lg_sl ([.ref o0, .long (lN a)]) ++ List.replicate (3 - (lg_sl ([.ref o0, .long (lN a)])).length) Slot.unset).toArray = ls at hl ⊢
  have hl : lv_has ls 3 [(0, .ref o0), (1, .long (lN a))] := hl
  refine lv_aload_n hx hb d_O_channel_0 rfl (lv_at hl 0 rfl) ?_
  refine lv_aload_n hx hb d_O_channel_1 rfl (lv_at hl 0 rfl) ?_
  refine lv_lload_n hx hb d_O_channel_2 rfl (lv_at hl 1 rfl) ?_
  refine vp_callSi (va_Run.run (va_runV (As := [.long (lN a)]) (rest := [.ref o0]) ⟨hx, hb, hml, hown, hts⟩ (c_O_isResidue l dC dI cI cL o0 g1 g2 g3 g4 g5 g6 g7 g8 fl p n vr ir od cc gc oc hm a (by have := res_lt hm ha; omega)) (cwV 1 hts (gi_V kw_600 kw_602 ks_O_isResidue kw_5 gi_O_isResidue) rfl rfl rfl ⟨rfl, by decide, by decide, by decide⟩ ⟨Nat.le_of_ble_eq_true rfl, Nat.le_of_ble_eq_true rfl⟩) (wq_preVR hP hK hN [0] rfl (q0 := 0) (ci := 4) rfl rfl rfl) rfl rfl hl.1 rfl (lv_room (Nat.le_of_ble_eq_true rfl)) d_O_channel_3 ⟨Nat.le_of_ble_eq_true rfl, Nat.le_of_ble_eq_true rfl⟩)) (fun r hq => ?_)
  rw [if_pos ha] at hq
  subst hq
  refine lv_if_ne (tgt := 13) hx hb d_O_channel_6 (by decide) (fun _ => ?_) (fun hc => absurd hc (show ¬ (1 : Int32) = 0 from by decide))
  refine lv_aload_n hx hb d_O_channel_13 rfl (lv_at hl 0 rfl) ?_
  refine va_get (D := (dC, dI)) (ci := 4) (v := .int (nI cc)) (C := R_O) (T := F_O) (N := 17) hx hb hts in_O hown hK hP 0 rfl rfl 6 (by decide) (hts _ kw_534) (fun _ h9 => h9) rfl d_O_channel_14 ?_
  refine lv_bipush (v := nI 8) hx hb d_O_channel_17 (by decide) ?_
  refine lv_icmp_ne (tgt := 26) hx hb d_O_channel_19 (by decide) (fun hc => absurd hc (fun z => z (by rw [hcc]))) (fun _ => ?_)
  refine lv_iconst (v := nI 2) hx hb d_O_channel_22 (by decide) ?_
  refine lv_goto (tgt := 27) hx hb d_O_channel_23 (by decide) ?_
  refine wq_i (wr := []) (va_runV (As := [.int (nI 2)]) (rest := []) ⟨hx, hb, hml, hown, hts⟩ (c_O_refusedK l dC dI cI cL st.heap.size o0 g1 g2 g3 g4 g5 g6 g7 g8 fl p n vr ir od cc gc oc 2 (by decide) (by decide)) (cwV 1 hts (gi_V kw_588 kw_590 ks_O_refused kw_5 gi_O_refused) rfl rfl rfl ⟨rfl, by decide, by decide, by decide⟩ ⟨Nat.le_of_ble_eq_true rfl, Nat.le_of_ble_eq_true rfl⟩) (wq_preVW hP hD hK hN [0] rfl rfl (q0 := 0) (ci := 4) rfl rfl rfl) rfl rfl hl.1 rfl (lv_room (Nat.le_of_ble_eq_true rfl)) d_O_channel_27 ⟨Nat.le_of_ble_eq_true rfl, Nat.le_of_ble_eq_true rfl⟩) hP hD hS hA [0] [] rfl rfl rfl (by decide) (fun r u H locs hq hP hD hS hz => ?_)
  have hP : va_P (dC, dI) classes [(o0, .inr (4, [.int (nI 2), .long (lN p), .int (nI n), .long (lN vr), .int (nI ir), .long (lN od), .int (nI cc), .ref g1, .int (nI gc), .ref g2, .ref g3, .ref g4, .int (nI oc), .ref g5, .ref g6, .ref g7, .ref g8]))] H := hP
  have hD : va_D A [(o0, .inr (4, [.int (nI 2), .long (lN p), .int (nI n), .long (lN vr), .int (nI ir), .long (lN od), .int (nI cc), .ref g1, .int (nI gc), .ref g2, .ref g3, .ref g4, .int (nI oc), .ref g5, .ref g6, .ref g7, .ref g8]))] := hD
  subst hq
  refine lv_if_eq (tgt := 35) hx hb d_O_channel_30 (by decide) (fun hc => absurd hc (show ¬ (1 : Int32) = 0 from by decide)) (fun _ => ?_)
  refine lv_iconst (v := nI 0) hx hb d_O_channel_33 (by decide) ?_
  have hP := hP.sub (ws' := [(o0, .inr (4, [.int (nI 2), .long (lN p), .int (nI n), .long (lN vr), .int (nI ir), .long (lN od), .int (nI cc), .ref g1, .int (nI gc), .ref g2, .ref g3, .ref g4, .int (nI oc), .ref g5, .ref g6, .ref g7, .ref g8]))]) [0] rfl
  have hD := hD.sub (ws' := [(o0, .inr (4, [.int (nI 2), .long (lN p), .int (nI n), .long (lN vr), .int (nI ir), .long (lN od), .int (nI cc), .ref g1, .int (nI gc), .ref g2, .ref g3, .ref g4, .int (nI oc), .ref g5, .ref g6, .ref g7, .ref g8]))]) [0] (by decide) rfl
  exact W.iret (v := nI 0) hx hb hr (fun t9 ht hW => ⟨⟨nI 0, (), rfl, rfl, by rw [ht]; exact hP, va_K.moved hW.alike hK, hD⟩, hS.F ht⟩) hS.2.2 d_O_channel_34
set_option maxHeartbeats 4000000 in
set_option maxRecDepth 100000 in
theorem c_O_outputY (l : Launch) (dC : Nat → ClassId) (dI : Nat → Nat → Nat) (cI cL : ClassId) (sz : Nat) (o0 g1 g2 g3 g4 g5 g6 g7 g8 : Nat) (fl p n vr ir od cc gc oc : Nat) (ol : Nat → Nat) (a : Nat) (ha : a < cc + gc) (hl1 : cc + gc < 2 ^ 31) (hoc : oc < 16) : Met l y_O_output w_O_output ({ frames := 1, cells := 0, slots := 0, locals := 21 } : Room) (va_Pc [.ref o0, .int (nI a)] (wq_W (dC, dI) classes [(o0, .inr (4, [.int (nI fl), .long (lN p), .int (nI n), .long (lN vr), .int (nI ir), .long (lN od), .int (nI cc), .ref g1, .int (nI gc), .ref g2, .ref g3, .ref g4, .int (nI oc), .ref g5, .ref g6, .ref g7, .ref g8])), (g5, .inl (cI, 16, .inl (fun c => nI (ol c))))] [(cI, .int), (cL, .long)] sz)) (va_Qi (fun (r : Int32) (u : Unit) => r = nI oc) (fun (u : Unit) t => wq_B (dC, dI) classes [(cI, .int), (cL, .long)] (va_A [(o0, .inr (4, [.int (nI fl), .long (lN p), .int (nI n), .long (lN vr), .int (nI ir), .long (lN od), .int (nI cc), .ref g1, .int (nI gc), .ref g2, .ref g3, .ref g4, .int (nI oc), .ref g5, .ref g6, .ref g7, .ref g8])), (g5, .inl (cI, 16, .inl (fun c => nI (ol c))))] sz) [(o0, .inr (4, [.int (nI 0), .long (lN p), .int (nI n), .long (lN vr), .int (nI ir), .long (lN od), .int (nI cc), .ref g1, .int (nI gc), .ref g2, .ref g3, .ref g4, .int (nI (oc + 1)), .ref g5, .ref g6, .ref g7, .ref g8])), (g5, .inl (cI, 16, .inl (fun c => nI ((va_up ol oc a) c))))] t) (va_A [(o0, .inr (4, [.int (nI fl), .long (lN p), .int (nI n), .long (lN vr), .int (nI ir), .long (lN od), .int (nI cc), .ref g1, .int (nI gc), .ref g2, .ref g3, .ref g4, .int (nI oc), .ref g5, .ref g6, .ref g7, .ref g8])), (g5, .inl (cI, 16, .inl (fun c => nI (ol c))))] sz)) 0 0 (va_A [(o0, .inr (4, [.int (nI fl), .long (lN p), .int (nI n), .long (lN vr), .int (nI ir), .long (lN od), .int (nI cc), .ref g1, .int (nI gc), .ref g2, .ref g3, .ref g4, .int (nI oc), .ref g5, .ref g6, .ref g7, .ref g8])), (g5, .inl (cI, 16, .inl (fun c => nI (ol c))))] sz) := by
  refine Met.ofW (cc := b_O_output) (maxL := 2) (ret := (Option.some Jvm.ClassFile.FieldType.int)) (by decide) rfl ?_
  intro pg en st mm ar bw me co s₁ B hml hv
  obtain ⟨rfl, hsz, hP, hK, hD0, hN⟩ := hv
  have hx := B.exec
  have hb := B.bytes
  have hr := B.returns
  have hlocks := B.notSynchronized
  have hts0 := atoms_spec (ws := w_O_output) B.pre
  have hts : ∀ w ∈ gw, w.before _ st = true := fun w h => hts0 w (List.mem_cons_of_mem _ h)
  have hown : st.vm.findClass R_O = some mm.cls := findClass_of_methodNamed B.named
  subst hsz
  have hD := hD0.self (sz := st.heap.size)
  generalize hAe : va_A [(o0, .inr (4, [.int (nI fl), .long (lN p), .int (nI n), .long (lN vr), .int (nI ir), .long (lN od), .int (nI cc), .ref g1, .int (nI gc), .ref g2, .ref g3, .ref g4, .int (nI oc), .ref g5, .ref g6, .ref g7, .ref g8])), (g5, .inl (cI, 16, .inl (fun c => nI (ol c))))] st.heap.size = A at hD ⊢
  have hA : ∀ q : Nat, st.heap.size ≤ q → A q := fun q h => by rw [← hAe]; exact Or.inr h
  have hS : va_S A st.heap st.heap [] := va_S.rf
  have hl := lv_entry ([.ref o0, .int (nI a)]) (n := 2) (Nat.le_of_ble_eq_true rfl)
  rw [lg_entry_eq]
  generalize (lg_sl ([.ref o0, .int (nI a)]) ++ List.replicate (2 - (lg_sl ([.ref o0, .int (nI a)])).length) Slot.unset).toArray = ls at hl ⊢
  have hl : lv_has ls 2 [(0, .ref o0), (1, .int (nI a))] := hl
  refine lv_aload_n hx hb d_O_output_0 rfl (lv_at hl 0 rfl) ?_
  refine lv_aload_n hx hb d_O_output_1 rfl (lv_at hl 0 rfl) ?_
  refine lv_iload_n hx hb d_O_output_2 rfl (lv_at hl 1 rfl) ?_
  refine vp_callSi (va_Run.run (va_runV (As := [.int (nI a)]) (rest := [.ref o0]) ⟨hx, hb, hml, hown, hts⟩ (c_O_isLine l dC dI cI cL o0 g1 g2 g3 g4 g5 g6 g7 g8 fl p n vr ir od cc gc oc (nI a)) (cwV 1 hts (gi_V kw_673 kw_675 ks_O_isLine kw_5 gi_O_isLine) rfl rfl rfl ⟨rfl, by decide, by decide, by decide⟩ ⟨Nat.le_of_ble_eq_true rfl, Nat.le_of_ble_eq_true rfl⟩) (wq_preVR hP hK hN [0] rfl (q0 := 0) (ci := 4) rfl rfl rfl) rfl rfl hl.1 rfl (lv_room (Nat.le_of_ble_eq_true rfl)) d_O_output_3 ⟨Nat.le_of_ble_eq_true rfl, Nat.le_of_ble_eq_true rfl⟩)) (fun r hq => ?_)
  have hq : r = 1 := by
    rcases hq with ⟨e9, -⟩ | ⟨-, e9⟩
    · exact e9
    · exact absurd e9 (in_ok ha hl1)
  subst hq
  refine lv_if_ne (tgt := 13) hx hb d_O_output_6 (by decide) (fun _ => ?_) (fun hc => absurd hc (show ¬ (1 : Int32) = 0 from by decide))
  refine lv_aload_n hx hb d_O_output_13 rfl (lv_at hl 0 rfl) ?_
  refine va_get (D := (dC, dI)) (ci := 4) (v := .int (nI oc)) (C := R_O) (T := F_O) (N := 17) hx hb hts in_O hown hK hP 0 rfl rfl 12 (by decide) (hts _ kw_540) (fun _ h9 => h9) rfl d_O_output_14 ?_
  refine lv_bipush (v := nI 16) hx hb d_O_output_17 (by decide) ?_
  refine lv_icmp_ne (tgt := 26) hx hb d_O_output_19 (by decide) (fun _ => ?_) (fun hc => absurd hc ((by decide +kernel : ∀ k, k < 16 → ¬ nI k = nI 16) oc hoc))
  refine lv_iconst (v := nI 0) hx hb d_O_output_26 (by decide) ?_
  refine wq_i (wr := [(g5, .inl (cI, 16, .inl (fun c => nI (ol c))))]) (va_runV (As := [.int (nI 0)]) (rest := []) ⟨hx, hb, hml, hown, hts⟩ (c_O_refused0 l dC dI cI cL st.heap.size o0 g1 g2 g3 g4 g5 g6 g7 g8 fl p n vr ir od cc gc oc) (cwV 1 hts (gi_V kw_588 kw_590 ks_O_refused kw_5 gi_O_refused) rfl rfl rfl ⟨rfl, by decide, by decide, by decide⟩ ⟨Nat.le_of_ble_eq_true rfl, Nat.le_of_ble_eq_true rfl⟩) (wq_preVW hP hD hK hN [0] rfl rfl (q0 := 0) (ci := 4) rfl rfl rfl) rfl rfl hl.1 rfl (lv_room (Nat.le_of_ble_eq_true rfl)) d_O_output_27 ⟨Nat.le_of_ble_eq_true rfl, Nat.le_of_ble_eq_true rfl⟩) hP hD hS hA [0] [1] rfl rfl rfl (by decide) (fun r u H locs hq hP hD hS hz => ?_)
  have hP : va_P (dC, dI) classes [(g5, .inl (cI, 16, .inl (fun c => nI (ol c)))), (o0, .inr (4, [.int (nI 0), .long (lN p), .int (nI n), .long (lN vr), .int (nI ir), .long (lN od), .int (nI cc), .ref g1, .int (nI gc), .ref g2, .ref g3, .ref g4, .int (nI oc), .ref g5, .ref g6, .ref g7, .ref g8]))] H := hP
  have hD : va_D A [(g5, .inl (cI, 16, .inl (fun c => nI (ol c)))), (o0, .inr (4, [.int (nI 0), .long (lN p), .int (nI n), .long (lN vr), .int (nI ir), .long (lN od), .int (nI cc), .ref g1, .int (nI gc), .ref g2, .ref g3, .ref g4, .int (nI oc), .ref g5, .ref g6, .ref g7, .ref g8]))] := hD
  subst hq
  refine lv_if_eq (tgt := 35) hx hb d_O_output_30 (by decide) (fun _ => ?_) (fun hc => absurd hc (fun z => z rfl))
  refine lv_aload_n hx hb d_O_output_35 rfl (lv_at hl 0 rfl) ?_
  refine va_get (D := (dC, dI)) (ci := 4) (v := .ref g5) (C := R_O) (T := F_O) (N := 17) hx hb hts in_O hown hK hP 1 rfl rfl 13 (by decide) (hts _ kw_541) (fun _ h9 => h9) rfl d_O_output_36 ?_
  refine lv_aload_n hx hb d_O_output_39 rfl (lv_at hl 0 rfl) ?_
  refine va_get (D := (dC, dI)) (ci := 4) (v := .int (nI oc)) (C := R_O) (T := F_O) (N := 17) hx hb hts in_O hown hK hP 1 rfl rfl 12 (by decide) (hts _ kw_540) (fun _ h9 => h9) rfl d_O_output_40 ?_
  refine lv_iload_n hx hb d_O_output_43 rfl (lv_at hl 1 rfl) ?_
  refine va_iast (D := (dC, dI)) (i := (nI oc)) (x := (nI a)) hx hb hK hP hD hS 0 0 rfl rfl (vp_in_nI (by omega) (by decide)) d_O_output_44 (fun H locs hP hD hS => ?_)
  rw [nI_clamp (by omega), upd_nI] at hP hD
  have hP : va_P (dC, dI) classes [(g5, .inl (cI, 16, .inl (fun c => nI ((va_up ol oc a) c)))), (o0, .inr (4, [.int (nI 0), .long (lN p), .int (nI n), .long (lN vr), .int (nI ir), .long (lN od), .int (nI cc), .ref g1, .int (nI gc), .ref g2, .ref g3, .ref g4, .int (nI oc), .ref g5, .ref g6, .ref g7, .ref g8]))] H := hP
  have hD : va_D A [(g5, .inl (cI, 16, .inl (fun c => nI ((va_up ol oc a) c)))), (o0, .inr (4, [.int (nI 0), .long (lN p), .int (nI n), .long (lN vr), .int (nI ir), .long (lN od), .int (nI cc), .ref g1, .int (nI gc), .ref g2, .ref g3, .ref g4, .int (nI oc), .ref g5, .ref g6, .ref g7, .ref g8]))] := hD
  refine lv_aload_n hx hb d_O_output_45 rfl (lv_at hl 0 rfl) ?_
  refine lv_dup hx hb d_O_output_46 rfl ?_
  refine va_get (D := (dC, dI)) (ci := 4) (v := .int (nI oc)) (C := R_O) (T := F_O) (N := 17) hx hb hts in_O hown hK hP 1 rfl rfl 12 (by decide) (hts _ kw_540) (fun _ h9 => h9) rfl d_O_output_47 ?_
  refine lv_iconst (v := nI 1) hx hb d_O_output_50 (by decide) ?_
  refine lv_iadd hx hb d_O_output_51 ?_
  refine lv_topi (nm_r (show _ = nI (oc + 1) from nI_add oc 1) ?_)
  refine va_put (D := (dC, dI)) (ci := 4) (v := .int (nI (oc + 1))) (ty := .int) (C := R_O) (T := F_O) (N := 17) hx hb hts in_O t_O t_O_ok n_O hown hK hP hD hS 1 rfl rfl 12 (by decide) (hts _ kw_540) (fun _ h9 => h9) rfl (by decide +kernel) rfl rfl (Nat.le_of_ble_eq_true rfl) d_O_output_52 (fun H locs hP hD hS => ?_)
  have hP : va_P (dC, dI) classes [(g5, .inl (cI, 16, .inl (fun c => nI ((va_up ol oc a) c)))), (o0, .inr (4, [.int (nI 0), .long (lN p), .int (nI n), .long (lN vr), .int (nI ir), .long (lN od), .int (nI cc), .ref g1, .int (nI gc), .ref g2, .ref g3, .ref g4, .int (nI (oc + 1)), .ref g5, .ref g6, .ref g7, .ref g8]))] H := hP
  have hD : va_D A [(g5, .inl (cI, 16, .inl (fun c => nI ((va_up ol oc a) c)))), (o0, .inr (4, [.int (nI 0), .long (lN p), .int (nI n), .long (lN vr), .int (nI ir), .long (lN od), .int (nI cc), .ref g1, .int (nI gc), .ref g2, .ref g3, .ref g4, .int (nI (oc + 1)), .ref g5, .ref g6, .ref g7, .ref g8]))] := hD
  refine lv_aload_n hx hb d_O_output_55 rfl (lv_at hl 0 rfl) ?_
  refine va_get (D := (dC, dI)) (ci := 4) (v := .int (nI (oc + 1))) (C := R_O) (T := F_O) (N := 17) hx hb hts in_O hown hK hP 1 rfl rfl 12 (by decide) (hts _ kw_540) (fun _ h9 => h9) rfl d_O_output_56 ?_
  refine lv_iconst (v := nI 1) hx hb d_O_output_59 (by decide) ?_
  refine lv_isub hx hb d_O_output_60 ?_
  refine lv_topi (nm_r (show _ = nI oc from nI_pred oc) ?_)
  have hP := hP.sub (ws' := [(o0, .inr (4, [.int (nI 0), .long (lN p), .int (nI n), .long (lN vr), .int (nI ir), .long (lN od), .int (nI cc), .ref g1, .int (nI gc), .ref g2, .ref g3, .ref g4, .int (nI (oc + 1)), .ref g5, .ref g6, .ref g7, .ref g8])), (g5, .inl (cI, 16, .inl (fun c => nI ((va_up ol oc a) c))))]) [1, 0] rfl
  have hD := hD.sub (ws' := [(o0, .inr (4, [.int (nI 0), .long (lN p), .int (nI n), .long (lN vr), .int (nI ir), .long (lN od), .int (nI cc), .ref g1, .int (nI gc), .ref g2, .ref g3, .ref g4, .int (nI (oc + 1)), .ref g5, .ref g6, .ref g7, .ref g8])), (g5, .inl (cI, 16, .inl (fun c => nI ((va_up ol oc a) c))))]) [1, 0] (by decide) rfl
  exact W.iret (v := nI oc) hx hb hr (fun t9 ht hW => ⟨⟨nI oc, (), rfl, rfl, by rw [ht]; exact hP, va_K.moved hW.alike hK, hD⟩, hS.F ht⟩) hS.2.2 d_O_output_61
set_option maxHeartbeats 4000000 in
set_option maxRecDepth 100000 in
theorem c_O_outputN (l : Launch) (dC : Nat → ClassId) (dI : Nat → Nat → Nat) (cI cL : ClassId) (sz : Nat) (o0 g1 g2 g3 g4 g5 g6 g7 g8 : Nat) (fl p n vr ir od cc gc oc : Nat) (y : Int32) (hy : (y < 0 ∨ ¬ y < nI (cc + gc))) : Met l y_O_output w_O_output ({ frames := 1, cells := 0, slots := 0, locals := 21 } : Room) (va_Pc [.ref o0, .int y] (wq_W (dC, dI) classes [(o0, .inr (4, [.int (nI fl), .long (lN p), .int (nI n), .long (lN vr), .int (nI ir), .long (lN od), .int (nI cc), .ref g1, .int (nI gc), .ref g2, .ref g3, .ref g4, .int (nI oc), .ref g5, .ref g6, .ref g7, .ref g8]))] [(cI, .int), (cL, .long)] sz)) (va_Qi (fun (r : Int32) (u : Unit) => r = nI 0) (fun (u : Unit) t => wq_B (dC, dI) classes [(cI, .int), (cL, .long)] (va_A [(o0, .inr (4, [.int (nI fl), .long (lN p), .int (nI n), .long (lN vr), .int (nI ir), .long (lN od), .int (nI cc), .ref g1, .int (nI gc), .ref g2, .ref g3, .ref g4, .int (nI oc), .ref g5, .ref g6, .ref g7, .ref g8]))] sz) [(o0, .inr (4, [.int (nI 1), .long (lN p), .int (nI n), .long (lN vr), .int (nI ir), .long (lN od), .int (nI cc), .ref g1, .int (nI gc), .ref g2, .ref g3, .ref g4, .int (nI oc), .ref g5, .ref g6, .ref g7, .ref g8]))] t) (va_A [(o0, .inr (4, [.int (nI fl), .long (lN p), .int (nI n), .long (lN vr), .int (nI ir), .long (lN od), .int (nI cc), .ref g1, .int (nI gc), .ref g2, .ref g3, .ref g4, .int (nI oc), .ref g5, .ref g6, .ref g7, .ref g8]))] sz)) 0 0 (va_A [(o0, .inr (4, [.int (nI fl), .long (lN p), .int (nI n), .long (lN vr), .int (nI ir), .long (lN od), .int (nI cc), .ref g1, .int (nI gc), .ref g2, .ref g3, .ref g4, .int (nI oc), .ref g5, .ref g6, .ref g7, .ref g8]))] sz) := by
  refine Met.ofW (cc := b_O_output) (maxL := 2) (ret := (Option.some Jvm.ClassFile.FieldType.int)) (by decide) rfl ?_
  intro pg en st mm ar bw me co s₁ B hml hv
  obtain ⟨rfl, hsz, hP, hK, hD0, hN⟩ := hv
  have hx := B.exec
  have hb := B.bytes
  have hr := B.returns
  have hlocks := B.notSynchronized
  have hts0 := atoms_spec (ws := w_O_output) B.pre
  have hts : ∀ w ∈ gw, w.before _ st = true := fun w h => hts0 w (List.mem_cons_of_mem _ h)
  have hown : st.vm.findClass R_O = some mm.cls := findClass_of_methodNamed B.named
  subst hsz
  have hD := hD0.self (sz := st.heap.size)
  generalize hAe : va_A [(o0, .inr (4, [.int (nI fl), .long (lN p), .int (nI n), .long (lN vr), .int (nI ir), .long (lN od), .int (nI cc), .ref g1, .int (nI gc), .ref g2, .ref g3, .ref g4, .int (nI oc), .ref g5, .ref g6, .ref g7, .ref g8]))] st.heap.size = A at hD ⊢
  have hA : ∀ q : Nat, st.heap.size ≤ q → A q := fun q h => by rw [← hAe]; exact Or.inr h
  have hS : va_S A st.heap st.heap [] := va_S.rf
  have hl := lv_entry ([.ref o0, .int y]) (n := 2) (Nat.le_of_ble_eq_true rfl)
  rw [lg_entry_eq]
  generalize (lg_sl ([.ref o0, .int y]) ++ List.replicate (2 - (lg_sl ([.ref o0, .int y])).length) Slot.unset).toArray = ls at hl ⊢
  have hl : lv_has ls 2 [(0, .ref o0), (1, .int y)] := hl
  refine lv_aload_n hx hb d_O_output_0 rfl (lv_at hl 0 rfl) ?_
  refine lv_aload_n hx hb d_O_output_1 rfl (lv_at hl 0 rfl) ?_
  refine lv_iload_n hx hb d_O_output_2 rfl (lv_at hl 1 rfl) ?_
  refine vp_callSi (va_Run.run (va_runV (As := [.int y]) (rest := [.ref o0]) ⟨hx, hb, hml, hown, hts⟩ (c_O_isLine l dC dI cI cL o0 g1 g2 g3 g4 g5 g6 g7 g8 fl p n vr ir od cc gc oc y) (cwV 1 hts (gi_V kw_673 kw_675 ks_O_isLine kw_5 gi_O_isLine) rfl rfl rfl ⟨rfl, by decide, by decide, by decide⟩ ⟨Nat.le_of_ble_eq_true rfl, Nat.le_of_ble_eq_true rfl⟩) (wq_preVR hP hK hN [0] rfl (q0 := 0) (ci := 4) rfl rfl rfl) rfl rfl hl.1 rfl (lv_room (Nat.le_of_ble_eq_true rfl)) d_O_output_3 ⟨Nat.le_of_ble_eq_true rfl, Nat.le_of_ble_eq_true rfl⟩)) (fun r hq => ?_)
  have hq : r = 0 := by
    rcases hq with ⟨-, e9⟩ | ⟨e9, -⟩
    · exact absurd hy e9
    · exact e9
  subst hq
  refine lv_if_ne (tgt := 13) hx hb d_O_output_6 (by decide) (fun hc => absurd hc (fun z => z rfl)) (fun _ => ?_)
  refine lv_iconst (v := nI 1) hx hb d_O_output_9 (by decide) ?_
  refine lv_goto (tgt := 27) hx hb d_O_output_10 (by decide) ?_
  refine wq_i (wr := []) (va_runV (As := [.int (nI 1)]) (rest := []) ⟨hx, hb, hml, hown, hts⟩ (c_O_refusedK l dC dI cI cL st.heap.size o0 g1 g2 g3 g4 g5 g6 g7 g8 fl p n vr ir od cc gc oc 1 (by decide) (by decide)) (cwV 1 hts (gi_V kw_588 kw_590 ks_O_refused kw_5 gi_O_refused) rfl rfl rfl ⟨rfl, by decide, by decide, by decide⟩ ⟨Nat.le_of_ble_eq_true rfl, Nat.le_of_ble_eq_true rfl⟩) (wq_preVW hP hD hK hN [0] rfl rfl (q0 := 0) (ci := 4) rfl rfl rfl) rfl rfl hl.1 rfl (lv_room (Nat.le_of_ble_eq_true rfl)) d_O_output_27 ⟨Nat.le_of_ble_eq_true rfl, Nat.le_of_ble_eq_true rfl⟩) hP hD hS hA [0] [] rfl rfl rfl (by decide) (fun r u H locs hq hP hD hS hz => ?_)
  have hP : va_P (dC, dI) classes [(o0, .inr (4, [.int (nI 1), .long (lN p), .int (nI n), .long (lN vr), .int (nI ir), .long (lN od), .int (nI cc), .ref g1, .int (nI gc), .ref g2, .ref g3, .ref g4, .int (nI oc), .ref g5, .ref g6, .ref g7, .ref g8]))] H := hP
  have hD : va_D A [(o0, .inr (4, [.int (nI 1), .long (lN p), .int (nI n), .long (lN vr), .int (nI ir), .long (lN od), .int (nI cc), .ref g1, .int (nI gc), .ref g2, .ref g3, .ref g4, .int (nI oc), .ref g5, .ref g6, .ref g7, .ref g8]))] := hD
  subst hq
  refine lv_if_eq (tgt := 35) hx hb d_O_output_30 (by decide) (fun hc => absurd hc (show ¬ (1 : Int32) = 0 from by decide)) (fun _ => ?_)
  refine lv_iconst (v := nI 0) hx hb d_O_output_33 (by decide) ?_
  have hP := hP.sub (ws' := [(o0, .inr (4, [.int (nI 1), .long (lN p), .int (nI n), .long (lN vr), .int (nI ir), .long (lN od), .int (nI cc), .ref g1, .int (nI gc), .ref g2, .ref g3, .ref g4, .int (nI oc), .ref g5, .ref g6, .ref g7, .ref g8]))]) [0] rfl
  have hD := hD.sub (ws' := [(o0, .inr (4, [.int (nI 1), .long (lN p), .int (nI n), .long (lN vr), .int (nI ir), .long (lN od), .int (nI cc), .ref g1, .int (nI gc), .ref g2, .ref g3, .ref g4, .int (nI oc), .ref g5, .ref g6, .ref g7, .ref g8]))]) [0] (by decide) rfl
  exact W.iret (v := nI 0) hx hb hr (fun t9 ht hW => ⟨⟨nI 0, (), rfl, rfl, by rw [ht]; exact hP, va_K.moved hW.alike hK, hD⟩, hS.F ht⟩) hS.2.2 d_O_output_34
set_option maxHeartbeats 4000000 in
set_option maxRecDepth 100000 in
theorem c_O_outputF (l : Launch) (dC : Nat → ClassId) (dI : Nat → Nat → Nat) (cI cL : ClassId) (sz : Nat) (o0 g1 g2 g3 g4 g5 g6 g7 g8 : Nat) (fl p n vr ir od cc gc oc : Nat) (a : Nat) (ha : a < cc + gc) (hl1 : cc + gc < 2 ^ 31) (hoc : oc = 16) : Met l y_O_output w_O_output ({ frames := 1, cells := 0, slots := 0, locals := 21 } : Room) (va_Pc [.ref o0, .int (nI a)] (wq_W (dC, dI) classes [(o0, .inr (4, [.int (nI fl), .long (lN p), .int (nI n), .long (lN vr), .int (nI ir), .long (lN od), .int (nI cc), .ref g1, .int (nI gc), .ref g2, .ref g3, .ref g4, .int (nI oc), .ref g5, .ref g6, .ref g7, .ref g8]))] [(cI, .int), (cL, .long)] sz)) (va_Qi (fun (r : Int32) (u : Unit) => r = nI 0) (fun (u : Unit) t => wq_B (dC, dI) classes [(cI, .int), (cL, .long)] (va_A [(o0, .inr (4, [.int (nI fl), .long (lN p), .int (nI n), .long (lN vr), .int (nI ir), .long (lN od), .int (nI cc), .ref g1, .int (nI gc), .ref g2, .ref g3, .ref g4, .int (nI oc), .ref g5, .ref g6, .ref g7, .ref g8]))] sz) [(o0, .inr (4, [.int (nI 2), .long (lN p), .int (nI n), .long (lN vr), .int (nI ir), .long (lN od), .int (nI cc), .ref g1, .int (nI gc), .ref g2, .ref g3, .ref g4, .int (nI oc), .ref g5, .ref g6, .ref g7, .ref g8]))] t) (va_A [(o0, .inr (4, [.int (nI fl), .long (lN p), .int (nI n), .long (lN vr), .int (nI ir), .long (lN od), .int (nI cc), .ref g1, .int (nI gc), .ref g2, .ref g3, .ref g4, .int (nI oc), .ref g5, .ref g6, .ref g7, .ref g8]))] sz)) 0 0 (va_A [(o0, .inr (4, [.int (nI fl), .long (lN p), .int (nI n), .long (lN vr), .int (nI ir), .long (lN od), .int (nI cc), .ref g1, .int (nI gc), .ref g2, .ref g3, .ref g4, .int (nI oc), .ref g5, .ref g6, .ref g7, .ref g8]))] sz) := by
  refine Met.ofW (cc := b_O_output) (maxL := 2) (ret := (Option.some Jvm.ClassFile.FieldType.int)) (by decide) rfl ?_
  intro pg en st mm ar bw me co s₁ B hml hv
  obtain ⟨rfl, hsz, hP, hK, hD0, hN⟩ := hv
  have hx := B.exec
  have hb := B.bytes
  have hr := B.returns
  have hlocks := B.notSynchronized
  have hts0 := atoms_spec (ws := w_O_output) B.pre
  have hts : ∀ w ∈ gw, w.before _ st = true := fun w h => hts0 w (List.mem_cons_of_mem _ h)
  have hown : st.vm.findClass R_O = some mm.cls := findClass_of_methodNamed B.named
  subst hsz
  have hD := hD0.self (sz := st.heap.size)
  generalize hAe : va_A [(o0, .inr (4, [.int (nI fl), .long (lN p), .int (nI n), .long (lN vr), .int (nI ir), .long (lN od), .int (nI cc), .ref g1, .int (nI gc), .ref g2, .ref g3, .ref g4, .int (nI oc), .ref g5, .ref g6, .ref g7, .ref g8]))] st.heap.size = A at hD ⊢
  have hA : ∀ q : Nat, st.heap.size ≤ q → A q := fun q h => by rw [← hAe]; exact Or.inr h
  have hS : va_S A st.heap st.heap [] := va_S.rf
  have hl := lv_entry ([.ref o0, .int (nI a)]) (n := 2) (Nat.le_of_ble_eq_true rfl)
  rw [lg_entry_eq]
  generalize (lg_sl ([.ref o0, .int (nI a)]) ++ List.replicate (2 - (lg_sl ([.ref o0, .int (nI a)])).length) Slot.unset).toArray = ls at hl ⊢
  have hl : lv_has ls 2 [(0, .ref o0), (1, .int (nI a))] := hl
  refine lv_aload_n hx hb d_O_output_0 rfl (lv_at hl 0 rfl) ?_
  refine lv_aload_n hx hb d_O_output_1 rfl (lv_at hl 0 rfl) ?_
  refine lv_iload_n hx hb d_O_output_2 rfl (lv_at hl 1 rfl) ?_
  refine vp_callSi (va_Run.run (va_runV (As := [.int (nI a)]) (rest := [.ref o0]) ⟨hx, hb, hml, hown, hts⟩ (c_O_isLine l dC dI cI cL o0 g1 g2 g3 g4 g5 g6 g7 g8 fl p n vr ir od cc gc oc (nI a)) (cwV 1 hts (gi_V kw_673 kw_675 ks_O_isLine kw_5 gi_O_isLine) rfl rfl rfl ⟨rfl, by decide, by decide, by decide⟩ ⟨Nat.le_of_ble_eq_true rfl, Nat.le_of_ble_eq_true rfl⟩) (wq_preVR hP hK hN [0] rfl (q0 := 0) (ci := 4) rfl rfl rfl) rfl rfl hl.1 rfl (lv_room (Nat.le_of_ble_eq_true rfl)) d_O_output_3 ⟨Nat.le_of_ble_eq_true rfl, Nat.le_of_ble_eq_true rfl⟩)) (fun r hq => ?_)
  have hq : r = 1 := by
    rcases hq with ⟨e9, -⟩ | ⟨-, e9⟩
    · exact e9
    · exact absurd e9 (in_ok ha hl1)
  subst hq
  refine lv_if_ne (tgt := 13) hx hb d_O_output_6 (by decide) (fun _ => ?_) (fun hc => absurd hc (show ¬ (1 : Int32) = 0 from by decide))
  refine lv_aload_n hx hb d_O_output_13 rfl (lv_at hl 0 rfl) ?_
  refine va_get (D := (dC, dI)) (ci := 4) (v := .int (nI oc)) (C := R_O) (T := F_O) (N := 17) hx hb hts in_O hown hK hP 0 rfl rfl 12 (by decide) (hts _ kw_540) (fun _ h9 => h9) rfl d_O_output_14 ?_
  refine lv_bipush (v := nI 16) hx hb d_O_output_17 (by decide) ?_
  refine lv_icmp_ne (tgt := 26) hx hb d_O_output_19 (by decide) (fun hc => absurd hc (fun z => z (by rw [hoc]))) (fun _ => ?_)
  refine lv_iconst (v := nI 2) hx hb d_O_output_22 (by decide) ?_
  refine lv_goto (tgt := 27) hx hb d_O_output_23 (by decide) ?_
  refine wq_i (wr := []) (va_runV (As := [.int (nI 2)]) (rest := []) ⟨hx, hb, hml, hown, hts⟩ (c_O_refusedK l dC dI cI cL st.heap.size o0 g1 g2 g3 g4 g5 g6 g7 g8 fl p n vr ir od cc gc oc 2 (by decide) (by decide)) (cwV 1 hts (gi_V kw_588 kw_590 ks_O_refused kw_5 gi_O_refused) rfl rfl rfl ⟨rfl, by decide, by decide, by decide⟩ ⟨Nat.le_of_ble_eq_true rfl, Nat.le_of_ble_eq_true rfl⟩) (wq_preVW hP hD hK hN [0] rfl rfl (q0 := 0) (ci := 4) rfl rfl rfl) rfl rfl hl.1 rfl (lv_room (Nat.le_of_ble_eq_true rfl)) d_O_output_27 ⟨Nat.le_of_ble_eq_true rfl, Nat.le_of_ble_eq_true rfl⟩) hP hD hS hA [0] [] rfl rfl rfl (by decide) (fun r u H locs hq hP hD hS hz => ?_)
  have hP : va_P (dC, dI) classes [(o0, .inr (4, [.int (nI 2), .long (lN p), .int (nI n), .long (lN vr), .int (nI ir), .long (lN od), .int (nI cc), .ref g1, .int (nI gc), .ref g2, .ref g3, .ref g4, .int (nI oc), .ref g5, .ref g6, .ref g7, .ref g8]))] H := hP
  have hD : va_D A [(o0, .inr (4, [.int (nI 2), .long (lN p), .int (nI n), .long (lN vr), .int (nI ir), .long (lN od), .int (nI cc), .ref g1, .int (nI gc), .ref g2, .ref g3, .ref g4, .int (nI oc), .ref g5, .ref g6, .ref g7, .ref g8]))] := hD
  subst hq
  refine lv_if_eq (tgt := 35) hx hb d_O_output_30 (by decide) (fun hc => absurd hc (show ¬ (1 : Int32) = 0 from by decide)) (fun _ => ?_)
  refine lv_iconst (v := nI 0) hx hb d_O_output_33 (by decide) ?_
  have hP := hP.sub (ws' := [(o0, .inr (4, [.int (nI 2), .long (lN p), .int (nI n), .long (lN vr), .int (nI ir), .long (lN od), .int (nI cc), .ref g1, .int (nI gc), .ref g2, .ref g3, .ref g4, .int (nI oc), .ref g5, .ref g6, .ref g7, .ref g8]))]) [0] rfl
  have hD := hD.sub (ws' := [(o0, .inr (4, [.int (nI 2), .long (lN p), .int (nI n), .long (lN vr), .int (nI ir), .long (lN od), .int (nI cc), .ref g1, .int (nI gc), .ref g2, .ref g3, .ref g4, .int (nI oc), .ref g5, .ref g6, .ref g7, .ref g8]))]) [0] (by decide) rfl
  exact W.iret (v := nI 0) hx hb hr (fun t9 ht hW => ⟨⟨nI 0, (), rfl, rfl, by rw [ht]; exact hP, va_K.moved hW.alike hK, hD⟩, hS.F ht⟩) hS.2.2 d_O_output_34
set_option maxHeartbeats 4000000 in
set_option maxRecDepth 100000 in
theorem c_O_polynomialY (l : Launch) (dC : Nat → ClassId) (dI : Nat → Nat → Nat) (cI cL : ClassId) (sz : Nat) (o0 g1 g2 g3 g4 g5 g6 g7 g8 : Nat) (fl p n vr ir od cc gc oc : Nat) (p2 n2 : Nat) (hm : md p2 n2) (hp0 : p2 < 2 ^ 64) : Met l y_O_polynomial w_O_polynomial ({ frames := 1, cells := 0, slots := 0, locals := 21 } : Room) (va_Pc [.ref o0, .long (lN p2)] (wq_W (dC, dI) classes [(o0, .inr (4, [.int (nI fl), .long (lN p), .int (nI n), .long (lN vr), .int (nI ir), .long (lN od), .int (nI cc), .ref g1, .int (nI gc), .ref g2, .ref g3, .ref g4, .int (nI oc), .ref g5, .ref g6, .ref g7, .ref g8]))] [(cI, .int), (cL, .long)] sz)) (va_Qi (fun (r : Int32) (u : Unit) => r = nI n2) (fun (u : Unit) t => wq_B (dC, dI) classes [(cI, .int), (cL, .long)] (va_A [(o0, .inr (4, [.int (nI fl), .long (lN p), .int (nI n), .long (lN vr), .int (nI ir), .long (lN od), .int (nI cc), .ref g1, .int (nI gc), .ref g2, .ref g3, .ref g4, .int (nI oc), .ref g5, .ref g6, .ref g7, .ref g8]))] sz) [(o0, .inr (4, [.int (nI 0), .long (lN p2), .int (nI n2), .long (lN 1), .int (nI 0), .long (lN 0), .int (nI 0), .ref g1, .int (nI 0), .ref g2, .ref g3, .ref g4, .int (nI 0), .ref g5, .ref g6, .ref g7, .ref g8]))] t) (va_A [(o0, .inr (4, [.int (nI fl), .long (lN p), .int (nI n), .long (lN vr), .int (nI ir), .long (lN od), .int (nI cc), .ref g1, .int (nI gc), .ref g2, .ref g3, .ref g4, .int (nI oc), .ref g5, .ref g6, .ref g7, .ref g8]))] sz)) 0 0 (va_A [(o0, .inr (4, [.int (nI fl), .long (lN p), .int (nI n), .long (lN vr), .int (nI ir), .long (lN od), .int (nI cc), .ref g1, .int (nI gc), .ref g2, .ref g3, .ref g4, .int (nI oc), .ref g5, .ref g6, .ref g7, .ref g8]))] sz) := by
  refine Met.ofW (cc := b_O_polynomial) (maxL := 5) (ret := (Option.some Jvm.ClassFile.FieldType.int)) (by decide) rfl ?_
  intro pg en st mm ar bw me co s₁ B hml hv
  obtain ⟨rfl, hsz, hP, hK, hD0, hN⟩ := hv
  have hx := B.exec
  have hb := B.bytes
  have hr := B.returns
  have hlocks := B.notSynchronized
  have hts0 := atoms_spec (ws := w_O_polynomial) B.pre
  have hts : ∀ w ∈ gw, w.before _ st = true := fun w h => hts0 w (List.mem_cons_of_mem _ h)
  have hown : st.vm.findClass R_O = some mm.cls := findClass_of_methodNamed B.named
  subst hsz
  have hD := hD0.self (sz := st.heap.size)
  generalize hAe : va_A [(o0, .inr (4, [.int (nI fl), .long (lN p), .int (nI n), .long (lN vr), .int (nI ir), .long (lN od), .int (nI cc), .ref g1, .int (nI gc), .ref g2, .ref g3, .ref g4, .int (nI oc), .ref g5, .ref g6, .ref g7, .ref g8]))] st.heap.size = A at hD ⊢
  have hA : ∀ q : Nat, st.heap.size ≤ q → A q := fun q h => by rw [← hAe]; exact Or.inr h
  have hS : va_S A st.heap st.heap [] := va_S.rf
  have hl := lv_entry ([.ref o0, .long (lN p2)]) (n := 5) (Nat.le_of_ble_eq_true rfl)
  rw [lg_entry_eq]
  generalize (lg_sl ([.ref o0, .long (lN p2)]) ++ List.replicate (5 - (lg_sl ([.ref o0, .long (lN p2)])).length) Slot.unset).toArray = ls at hl ⊢
  have hl : lv_has ls 5 [(0, .ref o0), (1, .long (lN p2))] := hl
  have tail : ∀ (ls : Array Slot), lv_has ls 5 [(0, .ref o0), (1, .long (lN p2)), (3, .int (jm (blen p2)))] → W pg l en (headSpec w_O_polynomial ({ frames := 1, cells := 0, slots := 0, locals := 21 } : Room)).room st mm ([.ref o0, .long (lN p2)] : List Value).toArray bw me co st.heap [] 0 0 (MQ bw (va_Qi (fun (r : Int32) (u : Unit) => r = nI n2) (fun (u : Unit) t => wq_B (dC, dI) classes [(cI, .int), (cL, .long)] A [(o0, .inr (4, [.int (nI 0), .long (lN p2), .int (nI n2), .long (lN 1), .int (nI 0), .long (lN 0), .int (nI 0), .ref g1, .int (nI 0), .ref g2, .ref g3, .ref g4, .int (nI 0), .ref g5, .ref g6, .ref g7, .ref g8]))] t) A) ([.ref o0, .long (lN p2)] : List Value).toArray st 0 0 A) (F0 mm 36 ls []) := by
    intro ls hl
    have hn1 := hm.1
    have hn2 := hm.2.1
    have e9 : (jm (blen p2)) = (nI n2) := md_jm hm
    have hl : lv_has ls 5 [(0, .ref o0), (1, .long (lN p2)), (3, .int (nI n2))] := by rw [← e9]; exact hl
    refine lv_aload_n hx hb d_O_polynomial_36 rfl (lv_at hl 0 rfl) ?_
    refine lv_iload_n hx hb d_O_polynomial_37 rfl (lv_at hl 2 rfl) ?_
    refine lv_iconst (v := nI 1) hx hb d_O_polynomial_38 (by decide) ?_
    refine lv_icmp_lt (tgt := 56) hx hb d_O_polynomial_39 (by decide) (fun hc => absurd hc (fun z => absurd ((nI_ltI (by omega) (by decide)).mp z) (by omega))) (fun _ => ?_)
    refine lv_iload_n hx hb d_O_polynomial_42 rfl (lv_at hl 2 rfl) ?_
    refine lv_bipush (v := nI 32) hx hb d_O_polynomial_43 (by decide) ?_
    refine lv_icmp_gt (tgt := 56) hx hb d_O_polynomial_45 (by decide) (fun hc => absurd hc (fun z => absurd ((nI_ltI (by decide) (by omega)).mp z) (by omega))) (fun _ => ?_)
    refine lv_lload_n hx hb d_O_polynomial_48 rfl (lv_at hl 1 rfl) ?_
    refine lv_lconst (v := lN 1) hx hb d_O_polynomial_49 (by decide) ?_
    refine lv_land hx hb d_O_polynomial_50 ?_
    refine lv_topl (nm_r (show _ = lN (p2 % 2) from g1_and hp0) ?_)
    refine lv_lconst (v := lN 0) hx hb d_O_polynomial_51 (by decide) ?_
    refine W.lcmp hx hb d_O_polynomial_52 ?_
    refine lv_if_ne (tgt := 60) hx hb d_O_polynomial_53 (by decide) (fun _ => ?_) (fun hc => absurd hc (fun z => lN_b0.mp (cmq_eq z) (md_odd hm)))
    refine lv_iconst (v := nI 0) hx hb d_O_polynomial_60 (by decide) ?_
    refine wq_i (wr := []) (va_runV (As := [.int (nI 0)]) (rest := []) ⟨hx, hb, hml, hown, hts⟩ (c_O_refused0 l dC dI cI cL st.heap.size o0 g1 g2 g3 g4 g5 g6 g7 g8 fl p n vr ir od cc gc oc) (cwV 1 hts (gi_V kw_588 kw_590 ks_O_refused kw_5 gi_O_refused) rfl rfl rfl ⟨rfl, by decide, by decide, by decide⟩ ⟨Nat.le_of_ble_eq_true rfl, Nat.le_of_ble_eq_true rfl⟩) (wq_preVW hP hD hK hN [0] rfl rfl (q0 := 0) (ci := 4) rfl rfl rfl) rfl rfl hl.1 rfl (lv_room (Nat.le_of_ble_eq_true rfl)) d_O_polynomial_61 ⟨Nat.le_of_ble_eq_true rfl, Nat.le_of_ble_eq_true rfl⟩) hP hD hS hA [0] [] rfl rfl rfl (by decide) (fun r u H locs hq hP hD hS hz => ?_)
    have hP : va_P (dC, dI) classes [(o0, .inr (4, [.int (nI 0), .long (lN p), .int (nI n), .long (lN vr), .int (nI ir), .long (lN od), .int (nI cc), .ref g1, .int (nI gc), .ref g2, .ref g3, .ref g4, .int (nI oc), .ref g5, .ref g6, .ref g7, .ref g8]))] H := hP
    have hD : va_D A [(o0, .inr (4, [.int (nI 0), .long (lN p), .int (nI n), .long (lN vr), .int (nI ir), .long (lN od), .int (nI cc), .ref g1, .int (nI gc), .ref g2, .ref g3, .ref g4, .int (nI oc), .ref g5, .ref g6, .ref g7, .ref g8]))] := hD
    subst hq
    refine lv_if_eq (tgt := 69) hx hb d_O_polynomial_64 (by decide) (fun _ => ?_) (fun hc => absurd hc (fun z => z rfl))
    refine lv_aload_n hx hb d_O_polynomial_69 rfl (lv_at hl 0 rfl) ?_
    refine lv_lload_n hx hb d_O_polynomial_70 rfl (lv_at hl 1 rfl) ?_
    refine va_put (D := (dC, dI)) (ci := 4) (v := .long (lN p2)) (ty := .long) (C := R_O) (T := F_O) (N := 17) hx hb hts in_O t_O t_O_ok n_O hown hK hP hD hS 0 rfl rfl 1 (by decide) (hts _ kw_529) (fun _ h9 => h9) rfl (by decide +kernel) rfl rfl (Nat.le_of_ble_eq_true rfl) d_O_polynomial_71 (fun H locs hP hD hS => ?_)
    have hP : va_P (dC, dI) classes [(o0, .inr (4, [.int (nI 0), .long (lN p2), .int (nI n), .long (lN vr), .int (nI ir), .long (lN od), .int (nI cc), .ref g1, .int (nI gc), .ref g2, .ref g3, .ref g4, .int (nI oc), .ref g5, .ref g6, .ref g7, .ref g8]))] H := hP
    have hD : va_D A [(o0, .inr (4, [.int (nI 0), .long (lN p2), .int (nI n), .long (lN vr), .int (nI ir), .long (lN od), .int (nI cc), .ref g1, .int (nI gc), .ref g2, .ref g3, .ref g4, .int (nI oc), .ref g5, .ref g6, .ref g7, .ref g8]))] := hD
    refine lv_aload_n hx hb d_O_polynomial_74 rfl (lv_at hl 0 rfl) ?_
    refine lv_iload_n hx hb d_O_polynomial_75 rfl (lv_at hl 2 rfl) ?_
    refine va_put (D := (dC, dI)) (ci := 4) (v := .int (nI n2)) (ty := .int) (C := R_O) (T := F_O) (N := 17) hx hb hts in_O t_O t_O_ok n_O hown hK hP hD hS 0 rfl rfl 2 (by decide) (hts _ kw_530) (fun _ h9 => h9) rfl (by decide +kernel) rfl rfl (Nat.le_of_ble_eq_true rfl) d_O_polynomial_76 (fun H locs hP hD hS => ?_)
    have hP : va_P (dC, dI) classes [(o0, .inr (4, [.int (nI 0), .long (lN p2), .int (nI n2), .long (lN vr), .int (nI ir), .long (lN od), .int (nI cc), .ref g1, .int (nI gc), .ref g2, .ref g3, .ref g4, .int (nI oc), .ref g5, .ref g6, .ref g7, .ref g8]))] H := hP
    have hD : va_D A [(o0, .inr (4, [.int (nI 0), .long (lN p2), .int (nI n2), .long (lN vr), .int (nI ir), .long (lN od), .int (nI cc), .ref g1, .int (nI gc), .ref g2, .ref g3, .ref g4, .int (nI oc), .ref g5, .ref g6, .ref g7, .ref g8]))] := hD
    refine lv_aload_n hx hb d_O_polynomial_79 rfl (lv_at hl 0 rfl) ?_
    refine lv_lconst (v := lN 1) hx hb d_O_polynomial_80 (by decide) ?_
    refine va_put (D := (dC, dI)) (ci := 4) (v := .long (lN 1)) (ty := .long) (C := R_O) (T := F_O) (N := 17) hx hb hts in_O t_O t_O_ok n_O hown hK hP hD hS 0 rfl rfl 3 (by decide) (hts _ kw_531) (fun _ h9 => h9) rfl (by decide +kernel) rfl rfl (Nat.le_of_ble_eq_true rfl) d_O_polynomial_81 (fun H locs hP hD hS => ?_)
    have hP : va_P (dC, dI) classes [(o0, .inr (4, [.int (nI 0), .long (lN p2), .int (nI n2), .long (lN 1), .int (nI ir), .long (lN od), .int (nI cc), .ref g1, .int (nI gc), .ref g2, .ref g3, .ref g4, .int (nI oc), .ref g5, .ref g6, .ref g7, .ref g8]))] H := hP
    have hD : va_D A [(o0, .inr (4, [.int (nI 0), .long (lN p2), .int (nI n2), .long (lN 1), .int (nI ir), .long (lN od), .int (nI cc), .ref g1, .int (nI gc), .ref g2, .ref g3, .ref g4, .int (nI oc), .ref g5, .ref g6, .ref g7, .ref g8]))] := hD
    refine lv_aload_n hx hb d_O_polynomial_84 rfl (lv_at hl 0 rfl) ?_
    refine lv_iconst (v := nI 0) hx hb d_O_polynomial_85 (by decide) ?_
    refine va_put (D := (dC, dI)) (ci := 4) (v := .int (nI 0)) (ty := .int) (C := R_O) (T := F_O) (N := 17) hx hb hts in_O t_O t_O_ok n_O hown hK hP hD hS 0 rfl rfl 4 (by decide) (hts _ kw_532) (fun _ h9 => h9) rfl (by decide +kernel) rfl rfl (Nat.le_of_ble_eq_true rfl) d_O_polynomial_86 (fun H locs hP hD hS => ?_)
    have hP : va_P (dC, dI) classes [(o0, .inr (4, [.int (nI 0), .long (lN p2), .int (nI n2), .long (lN 1), .int (nI 0), .long (lN od), .int (nI cc), .ref g1, .int (nI gc), .ref g2, .ref g3, .ref g4, .int (nI oc), .ref g5, .ref g6, .ref g7, .ref g8]))] H := hP
    have hD : va_D A [(o0, .inr (4, [.int (nI 0), .long (lN p2), .int (nI n2), .long (lN 1), .int (nI 0), .long (lN od), .int (nI cc), .ref g1, .int (nI gc), .ref g2, .ref g3, .ref g4, .int (nI oc), .ref g5, .ref g6, .ref g7, .ref g8]))] := hD
    refine lv_aload_n hx hb d_O_polynomial_89 rfl (lv_at hl 0 rfl) ?_
    refine lv_lconst (v := lN 0) hx hb d_O_polynomial_90 (by decide) ?_
    refine va_put (D := (dC, dI)) (ci := 4) (v := .long (lN 0)) (ty := .long) (C := R_O) (T := F_O) (N := 17) hx hb hts in_O t_O t_O_ok n_O hown hK hP hD hS 0 rfl rfl 5 (by decide) (hts _ kw_533) (fun _ h9 => h9) rfl (by decide +kernel) rfl rfl (Nat.le_of_ble_eq_true rfl) d_O_polynomial_91 (fun H locs hP hD hS => ?_)
    have hP : va_P (dC, dI) classes [(o0, .inr (4, [.int (nI 0), .long (lN p2), .int (nI n2), .long (lN 1), .int (nI 0), .long (lN 0), .int (nI cc), .ref g1, .int (nI gc), .ref g2, .ref g3, .ref g4, .int (nI oc), .ref g5, .ref g6, .ref g7, .ref g8]))] H := hP
    have hD : va_D A [(o0, .inr (4, [.int (nI 0), .long (lN p2), .int (nI n2), .long (lN 1), .int (nI 0), .long (lN 0), .int (nI cc), .ref g1, .int (nI gc), .ref g2, .ref g3, .ref g4, .int (nI oc), .ref g5, .ref g6, .ref g7, .ref g8]))] := hD
    refine lv_aload_n hx hb d_O_polynomial_94 rfl (lv_at hl 0 rfl) ?_
    refine lv_iconst (v := nI 0) hx hb d_O_polynomial_95 (by decide) ?_
    refine va_put (D := (dC, dI)) (ci := 4) (v := .int (nI 0)) (ty := .int) (C := R_O) (T := F_O) (N := 17) hx hb hts in_O t_O t_O_ok n_O hown hK hP hD hS 0 rfl rfl 6 (by decide) (hts _ kw_534) (fun _ h9 => h9) rfl (by decide +kernel) rfl rfl (Nat.le_of_ble_eq_true rfl) d_O_polynomial_96 (fun H locs hP hD hS => ?_)
    have hP : va_P (dC, dI) classes [(o0, .inr (4, [.int (nI 0), .long (lN p2), .int (nI n2), .long (lN 1), .int (nI 0), .long (lN 0), .int (nI 0), .ref g1, .int (nI gc), .ref g2, .ref g3, .ref g4, .int (nI oc), .ref g5, .ref g6, .ref g7, .ref g8]))] H := hP
    have hD : va_D A [(o0, .inr (4, [.int (nI 0), .long (lN p2), .int (nI n2), .long (lN 1), .int (nI 0), .long (lN 0), .int (nI 0), .ref g1, .int (nI gc), .ref g2, .ref g3, .ref g4, .int (nI oc), .ref g5, .ref g6, .ref g7, .ref g8]))] := hD
    refine lv_aload_n hx hb d_O_polynomial_99 rfl (lv_at hl 0 rfl) ?_
    refine wq_v (wr := []) (va_runV (As := []) (rest := []) ⟨hx, hb, hml, hown, hts⟩ (c_O_clearCircuit l dC dI cI cL H.size o0 g1 g2 g3 g4 g5 g6 g7 g8 0 p2 n2 1 0 0 0 gc oc) (cwV 0 hts (gi_V kw_592 kw_594 ks_O_clearCircuit kw_5 gi_O_clearCircuit) rfl rfl rfl ⟨rfl, by decide, by decide, by decide⟩ ⟨Nat.le_of_ble_eq_true rfl, Nat.le_of_ble_eq_true rfl⟩) (wq_preVW hP hD hK hN [0] rfl rfl (q0 := 0) (ci := 4) rfl rfl rfl) rfl rfl hl.1 rfl (lv_room (Nat.le_of_ble_eq_true rfl)) d_O_polynomial_100 ⟨Nat.le_of_ble_eq_true rfl, Nat.le_of_ble_eq_true rfl⟩) hP hD hS hA [0] [] rfl rfl rfl (by decide) (fun u H locs hq2 hP hD hS hz => ?_)
    have hP : va_P (dC, dI) classes [(o0, .inr (4, [.int (nI 0), .long (lN p2), .int (nI n2), .long (lN 1), .int (nI 0), .long (lN 0), .int (nI 0), .ref g1, .int (nI 0), .ref g2, .ref g3, .ref g4, .int (nI 0), .ref g5, .ref g6, .ref g7, .ref g8]))] H := hP
    have hD : va_D A [(o0, .inr (4, [.int (nI 0), .long (lN p2), .int (nI n2), .long (lN 1), .int (nI 0), .long (lN 0), .int (nI 0), .ref g1, .int (nI 0), .ref g2, .ref g3, .ref g4, .int (nI 0), .ref g5, .ref g6, .ref g7, .ref g8]))] := hD
    refine lv_iload_n hx hb d_O_polynomial_103 rfl (lv_at hl 2 rfl) ?_
    have hP := hP.sub (ws' := [(o0, .inr (4, [.int (nI 0), .long (lN p2), .int (nI n2), .long (lN 1), .int (nI 0), .long (lN 0), .int (nI 0), .ref g1, .int (nI 0), .ref g2, .ref g3, .ref g4, .int (nI 0), .ref g5, .ref g6, .ref g7, .ref g8]))]) [0] rfl
    have hD := hD.sub (ws' := [(o0, .inr (4, [.int (nI 0), .long (lN p2), .int (nI n2), .long (lN 1), .int (nI 0), .long (lN 0), .int (nI 0), .ref g1, .int (nI 0), .ref g2, .ref g3, .ref g4, .int (nI 0), .ref g5, .ref g6, .ref g7, .ref g8]))]) [0] (by decide) rfl
    exact W.iret (v := nI n2) hx hb hr (fun t9 ht hW => ⟨⟨nI n2, (), rfl, rfl, by rw [ht]; exact hP, va_K.moved hW.alike hK, hD⟩, hS.F ht⟩) hS.2.2 d_O_polynomial_104
  have loop : ∀ (j i : Nat), j + i = 64 → ∀ (ls : Array Slot), lv_has ls 5 [(0, .ref o0), (1, .long (lN p2)), (3, .int (jm (blen (p2 % 2 ^ i)))), (4, .int (nI i))] → W pg l en (headSpec w_O_polynomial ({ frames := 1, cells := 0, slots := 0, locals := 21 } : Room)).room st mm ([.ref o0, .long (lN p2)] : List Value).toArray bw me co st.heap [] 0 0 (MQ bw (va_Qi (fun (r : Int32) (u : Unit) => r = nI n2) (fun (u : Unit) t => wq_B (dC, dI) classes [(cI, .int), (cL, .long)] A [(o0, .inr (4, [.int (nI 0), .long (lN p2), .int (nI n2), .long (lN 1), .int (nI 0), .long (lN 0), .int (nI 0), .ref g1, .int (nI 0), .ref g2, .ref g3, .ref g4, .int (nI 0), .ref g5, .ref g6, .ref g7, .ref g8]))] t) A) ([.ref o0, .long (lN p2)] : List Value).toArray st 0 0 A) (F0 mm 5 ls []) := by
    intro j
    induction j with
    | zero =>
      intro i hj ls hl
      refine lv_iload hx hb d_O_polynomial_5 (lv_at hl 3 rfl) ?_
      refine lv_bipush (v := nI 64) hx hb d_O_polynomial_7 (by decide) ?_
      refine lv_icmp_ge (tgt := 36) hx hb d_O_polynomial_9 (by decide) (fun hc => ?_) (fun hc => ?_)
      · have hi : i = 64 := by omega
        have e9 : (jm (blen (p2 % 2 ^ i))) = (jm (blen p2)) := by rw [hi, Nat.mod_eq_of_lt hp0]
        have hl : lv_has ls 5 [(0, .ref o0), (1, .long (lN p2)), (3, .int (jm (blen p2))), (4, .int (nI i))] := by rw [← e9]; exact hl
        have hl := lv_sub (l' := [(0, .ref o0), (1, .long (lN p2)), (3, .int (jm (blen p2)))]) hl [0, 1, 2] rfl
        exact tail ls hl
      · exact absurd ((nI_leI (by omega) (by omega)).mpr (by omega)) hc
    | succ j ih =>
      intro i hj ls hl
      have hbt := bl_turn p2 i
      refine lv_iload hx hb d_O_polynomial_5 (lv_at hl 3 rfl) ?_
      refine lv_bipush (v := nI 64) hx hb d_O_polynomial_7 (by decide) ?_
      refine lv_icmp_ge (tgt := 36) hx hb d_O_polynomial_9 (by decide) (fun hc => ?_) (fun hc => ?_)
      · exact absurd ((nI_leI (by omega) (by omega)).mp hc) (by omega)
      · refine lv_lload_n hx hb d_O_polynomial_12 rfl (lv_at hl 1 rfl) ?_
        refine lv_iload hx hb d_O_polynomial_13 (lv_at hl 3 rfl) ?_
        refine lv_lshr (v := lN p2 >>> ((nI i).toInt64 &&& 63)) hx hb d_O_polynomial_15 (rfl) ?_
        refine lv_lconst (v := lN 1) hx hb d_O_polynomial_16 (by decide) ?_
        refine lv_land hx hb d_O_polynomial_17 ?_
        refine lv_topl (nm_r (show _ = lN (p2 / 2 ^ i % 2) from sb1 hp0 (by omega)) ?_)
        refine lv_lconst (v := lN 1) hx hb d_O_polynomial_18 (by decide) ?_
        refine W.lcmp hx hb d_O_polynomial_19 ?_
        refine lv_if_ne (tgt := 28) hx hb d_O_polynomial_20 (by decide) (fun hbit => ?_) (fun hbit => ?_)
        · have hbit : ¬ p2 / 2 ^ i % 2 = 1 := fun z => cmq_ne hbit (by rw [z])
          rw [if_neg hbit] at hbt
          refine lv_iload_n hx hb d_O_polynomial_28 rfl (lv_at hl 2 rfl) ?_
          refine lv_topi (nm_r (show _ = jm (blen (p2 % 2 ^ (i + 1))) from by rw [hbt]) ?_)
          refine lv_istore_n (lv' := [(3, .int (jm (blen (p2 % 2 ^ (i + 1))))), (0, .ref o0), (1, .long (lN p2)), (4, .int (nI i))]) hx hb d_O_polynomial_29 rfl hl (by decide) rfl (fun ls hl => ?_)
          refine lv_iinc (v := nI (i + 1)) (lv' := [(4, .int (nI (i + 1))), (3, .int (jm (blen (p2 % 2 ^ (i + 1))))), (0, .ref o0), (1, .long (lN p2))]) hx hb d_O_polynomial_30 hl (k := 3) rfl (nI_1 i) (by decide) rfl (fun ls hl => ?_)
          refine lv_goto (tgt := 5) hx hb d_O_polynomial_33 (by decide) ?_
          have hl := lv_sub (l' := [(0, .ref o0), (1, .long (lN p2)), (3, .int (jm (blen (p2 % 2 ^ (i + 1))))), (4, .int (nI (i + 1)))]) hl [2, 3, 1, 0] rfl
          exact ih (i + 1) (by omega) ls hl
        · have hbit : p2 / 2 ^ i % 2 = 1 := lN_b1.mp (cmq_eq hbit)
          rw [if_pos hbit] at hbt
          refine lv_iload hx hb d_O_polynomial_23 (lv_at hl 3 rfl) ?_
          refine lv_goto (tgt := 29) hx hb d_O_polynomial_25 (by decide) ?_
          refine lv_topi (nm_r (show _ = jm (blen (p2 % 2 ^ (i + 1))) from by rw [hbt, jm_succ]) ?_)
          refine lv_istore_n (lv' := [(3, .int (jm (blen (p2 % 2 ^ (i + 1))))), (0, .ref o0), (1, .long (lN p2)), (4, .int (nI i))]) hx hb d_O_polynomial_29 rfl hl (by decide) rfl (fun ls hl => ?_)
          refine lv_iinc (v := nI (i + 1)) (lv' := [(4, .int (nI (i + 1))), (3, .int (jm (blen (p2 % 2 ^ (i + 1))))), (0, .ref o0), (1, .long (lN p2))]) hx hb d_O_polynomial_30 hl (k := 3) rfl (nI_1 i) (by decide) rfl (fun ls hl => ?_)
          refine lv_goto (tgt := 5) hx hb d_O_polynomial_33 (by decide) ?_
          have hl := lv_sub (l' := [(0, .ref o0), (1, .long (lN p2)), (3, .int (jm (blen (p2 % 2 ^ (i + 1))))), (4, .int (nI (i + 1)))]) hl [2, 3, 1, 0] rfl
          exact ih (i + 1) (by omega) ls hl
  refine lv_iconst (v := (-1)) hx hb d_O_polynomial_0 (by decide) ?_
  refine lv_istore_n (lv' := [(3, .int (-1)), (0, .ref o0), (1, .long (lN p2))]) hx hb d_O_polynomial_1 rfl hl (by decide) rfl (fun ls hl => ?_)
  refine lv_iconst (v := nI 0) hx hb d_O_polynomial_2 (by decide) ?_
  refine lv_istore (lv' := [(4, .int (nI 0)), (3, .int (-1)), (0, .ref o0), (1, .long (lN p2))]) hx hb d_O_polynomial_3 hl (by decide) rfl (fun ls hl => ?_)
  have e9 : (-1) = (jm (blen (p2 % 2 ^ 0))) := by rw [Nat.pow_zero, Nat.mod_one]; decide
  have hl : lv_has ls 5 [(4, .int (nI 0)), (3, .int (jm (blen (p2 % 2 ^ 0)))), (0, .ref o0), (1, .long (lN p2))] := by rw [← e9]; exact hl
  have hl := lv_sub (l' := [(0, .ref o0), (1, .long (lN p2)), (3, .int (jm (blen (p2 % 2 ^ 0)))), (4, .int (nI 0))]) hl [2, 3, 1, 0] rfl
  exact loop 64 0 rfl ls hl
set_option maxHeartbeats 4000000 in
set_option maxRecDepth 100000 in
theorem c_O_polynomialN (l : Launch) (dC : Nat → ClassId) (dI : Nat → Nat → Nat) (cI cL : ClassId) (sz : Nat) (o0 g1 g2 g3 g4 g5 g6 g7 g8 : Nat) (fl p n vr ir od cc gc oc : Nat) (p2 : Nat) (hp0 : p2 < 2 ^ 64) (hbad : ∀ n, ¬ md p2 n) : Met l y_O_polynomial w_O_polynomial ({ frames := 1, cells := 0, slots := 0, locals := 21 } : Room) (va_Pc [.ref o0, .long (lN p2)] (wq_W (dC, dI) classes [(o0, .inr (4, [.int (nI fl), .long (lN p), .int (nI n), .long (lN vr), .int (nI ir), .long (lN od), .int (nI cc), .ref g1, .int (nI gc), .ref g2, .ref g3, .ref g4, .int (nI oc), .ref g5, .ref g6, .ref g7, .ref g8]))] [(cI, .int), (cL, .long)] sz)) (va_Qi (fun (r : Int32) (u : Unit) => r = nI 0) (fun (u : Unit) t => wq_B (dC, dI) classes [(cI, .int), (cL, .long)] (va_A [(o0, .inr (4, [.int (nI fl), .long (lN p), .int (nI n), .long (lN vr), .int (nI ir), .long (lN od), .int (nI cc), .ref g1, .int (nI gc), .ref g2, .ref g3, .ref g4, .int (nI oc), .ref g5, .ref g6, .ref g7, .ref g8]))] sz) [(o0, .inr (4, [.int (nI 1), .long (lN p), .int (nI n), .long (lN vr), .int (nI ir), .long (lN od), .int (nI cc), .ref g1, .int (nI gc), .ref g2, .ref g3, .ref g4, .int (nI oc), .ref g5, .ref g6, .ref g7, .ref g8]))] t) (va_A [(o0, .inr (4, [.int (nI fl), .long (lN p), .int (nI n), .long (lN vr), .int (nI ir), .long (lN od), .int (nI cc), .ref g1, .int (nI gc), .ref g2, .ref g3, .ref g4, .int (nI oc), .ref g5, .ref g6, .ref g7, .ref g8]))] sz)) 0 0 (va_A [(o0, .inr (4, [.int (nI fl), .long (lN p), .int (nI n), .long (lN vr), .int (nI ir), .long (lN od), .int (nI cc), .ref g1, .int (nI gc), .ref g2, .ref g3, .ref g4, .int (nI oc), .ref g5, .ref g6, .ref g7, .ref g8]))] sz) := by
  refine Met.ofW (cc := b_O_polynomial) (maxL := 5) (ret := (Option.some Jvm.ClassFile.FieldType.int)) (by decide) rfl ?_
  intro pg en st mm ar bw me co s₁ B hml hv
  obtain ⟨rfl, hsz, hP, hK, hD0, hN⟩ := hv
  have hx := B.exec
  have hb := B.bytes
  have hr := B.returns
  have hlocks := B.notSynchronized
  have hts0 := atoms_spec (ws := w_O_polynomial) B.pre
  have hts : ∀ w ∈ gw, w.before _ st = true := fun w h => hts0 w (List.mem_cons_of_mem _ h)
  have hown : st.vm.findClass R_O = some mm.cls := findClass_of_methodNamed B.named
  subst hsz
  have hD := hD0.self (sz := st.heap.size)
  generalize hAe : va_A [(o0, .inr (4, [.int (nI fl), .long (lN p), .int (nI n), .long (lN vr), .int (nI ir), .long (lN od), .int (nI cc), .ref g1, .int (nI gc), .ref g2, .ref g3, .ref g4, .int (nI oc), .ref g5, .ref g6, .ref g7, .ref g8]))] st.heap.size = A at hD ⊢
  have hA : ∀ q : Nat, st.heap.size ≤ q → A q := fun q h => by rw [← hAe]; exact Or.inr h
  have hS : va_S A st.heap st.heap [] := va_S.rf
  have hl := lv_entry ([.ref o0, .long (lN p2)]) (n := 5) (Nat.le_of_ble_eq_true rfl)
  rw [lg_entry_eq]
  generalize (lg_sl ([.ref o0, .long (lN p2)]) ++ List.replicate (5 - (lg_sl ([.ref o0, .long (lN p2)])).length) Slot.unset).toArray = ls at hl ⊢
  have hl : lv_has ls 5 [(0, .ref o0), (1, .long (lN p2))] := hl
  have tail : ∀ (ls : Array Slot), lv_has ls 5 [(0, .ref o0), (1, .long (lN p2)), (3, .int (jm (blen p2)))] → W pg l en (headSpec w_O_polynomial ({ frames := 1, cells := 0, slots := 0, locals := 21 } : Room)).room st mm ([.ref o0, .long (lN p2)] : List Value).toArray bw me co st.heap [] 0 0 (MQ bw (va_Qi (fun (r : Int32) (u : Unit) => r = nI 0) (fun (u : Unit) t => wq_B (dC, dI) classes [(cI, .int), (cL, .long)] A [(o0, .inr (4, [.int (nI 1), .long (lN p), .int (nI n), .long (lN vr), .int (nI ir), .long (lN od), .int (nI cc), .ref g1, .int (nI gc), .ref g2, .ref g3, .ref g4, .int (nI oc), .ref g5, .ref g6, .ref g7, .ref g8]))] t) A) ([.ref o0, .long (lN p2)] : List Value).toArray st 0 0 A) (F0 mm 36 ls []) := by
    intro ls hl
    have hbl := blen_le hp0
    refine lv_aload_n hx hb d_O_polynomial_36 rfl (lv_at hl 0 rfl) ?_
    refine lv_iload_n hx hb d_O_polynomial_37 rfl (lv_at hl 2 rfl) ?_
    refine lv_iconst (v := nI 1) hx hb d_O_polynomial_38 (by decide) ?_
    refine lv_icmp_lt (tgt := 56) hx hb d_O_polynomial_39 (by decide) (fun h1 => ?_) (fun h1 => ?_)
    · refine lv_iconst (v := nI 1) hx hb d_O_polynomial_56 (by decide) ?_
      refine lv_goto (tgt := 61) hx hb d_O_polynomial_57 (by decide) ?_
      refine wq_i (wr := []) (va_runV (As := [.int (nI 1)]) (rest := []) ⟨hx, hb, hml, hown, hts⟩ (c_O_refusedK l dC dI cI cL st.heap.size o0 g1 g2 g3 g4 g5 g6 g7 g8 fl p n vr ir od cc gc oc 1 (by decide) (by decide)) (cwV 1 hts (gi_V kw_588 kw_590 ks_O_refused kw_5 gi_O_refused) rfl rfl rfl ⟨rfl, by decide, by decide, by decide⟩ ⟨Nat.le_of_ble_eq_true rfl, Nat.le_of_ble_eq_true rfl⟩) (wq_preVW hP hD hK hN [0] rfl rfl (q0 := 0) (ci := 4) rfl rfl rfl) rfl rfl hl.1 rfl (lv_room (Nat.le_of_ble_eq_true rfl)) d_O_polynomial_61 ⟨Nat.le_of_ble_eq_true rfl, Nat.le_of_ble_eq_true rfl⟩) hP hD hS hA [0] [] rfl rfl rfl (by decide) (fun r u H locs hq hP hD hS hz => ?_)
      have hP : va_P (dC, dI) classes [(o0, .inr (4, [.int (nI 1), .long (lN p), .int (nI n), .long (lN vr), .int (nI ir), .long (lN od), .int (nI cc), .ref g1, .int (nI gc), .ref g2, .ref g3, .ref g4, .int (nI oc), .ref g5, .ref g6, .ref g7, .ref g8]))] H := hP
      have hD : va_D A [(o0, .inr (4, [.int (nI 1), .long (lN p), .int (nI n), .long (lN vr), .int (nI ir), .long (lN od), .int (nI cc), .ref g1, .int (nI gc), .ref g2, .ref g3, .ref g4, .int (nI oc), .ref g5, .ref g6, .ref g7, .ref g8]))] := hD
      subst hq
      refine lv_if_eq (tgt := 69) hx hb d_O_polynomial_64 (by decide) (fun hc => absurd hc (show ¬ (1 : Int32) = 0 from by decide)) (fun _ => ?_)
      refine lv_iconst (v := nI 0) hx hb d_O_polynomial_67 (by decide) ?_
      have hP := hP.sub (ws' := [(o0, .inr (4, [.int (nI 1), .long (lN p), .int (nI n), .long (lN vr), .int (nI ir), .long (lN od), .int (nI cc), .ref g1, .int (nI gc), .ref g2, .ref g3, .ref g4, .int (nI oc), .ref g5, .ref g6, .ref g7, .ref g8]))]) [0] rfl
      have hD := hD.sub (ws' := [(o0, .inr (4, [.int (nI 1), .long (lN p), .int (nI n), .long (lN vr), .int (nI ir), .long (lN od), .int (nI cc), .ref g1, .int (nI gc), .ref g2, .ref g3, .ref g4, .int (nI oc), .ref g5, .ref g6, .ref g7, .ref g8]))]) [0] (by decide) rfl
      exact W.iret (v := nI 0) hx hb hr (fun t9 ht hW => ⟨⟨nI 0, (), rfl, rfl, by rw [ht]; exact hP, va_K.moved hW.alike hK, hD⟩, hS.F ht⟩) hS.2.2 d_O_polynomial_68
    · have h1 : ¬ blen p2 ≤ 1 := fun z => h1 ((jm_lt (by omega) (by decide)).mpr z)
      obtain ⟨d, hd⟩ : ∃ d, blen p2 = d + 1 := ⟨blen p2 - 1, by omega⟩
      have e9 : (jm (blen p2)) = (nI d) := by rw [hd]; exact jm_succ d
      have hl : lv_has ls 5 [(0, .ref o0), (1, .long (lN p2)), (3, .int (nI d))] := by rw [← e9]; exact hl
      refine lv_iload_n hx hb d_O_polynomial_42 rfl (lv_at hl 2 rfl) ?_
      refine lv_bipush (v := nI 32) hx hb d_O_polynomial_43 (by decide) ?_
      refine lv_icmp_gt (tgt := 56) hx hb d_O_polynomial_45 (by decide) (fun h2 => ?_) (fun h2 => ?_)
      · refine lv_iconst (v := nI 1) hx hb d_O_polynomial_56 (by decide) ?_
        refine lv_goto (tgt := 61) hx hb d_O_polynomial_57 (by decide) ?_
        refine wq_i (wr := []) (va_runV (As := [.int (nI 1)]) (rest := []) ⟨hx, hb, hml, hown, hts⟩ (c_O_refusedK l dC dI cI cL st.heap.size o0 g1 g2 g3 g4 g5 g6 g7 g8 fl p n vr ir od cc gc oc 1 (by decide) (by decide)) (cwV 1 hts (gi_V kw_588 kw_590 ks_O_refused kw_5 gi_O_refused) rfl rfl rfl ⟨rfl, by decide, by decide, by decide⟩ ⟨Nat.le_of_ble_eq_true rfl, Nat.le_of_ble_eq_true rfl⟩) (wq_preVW hP hD hK hN [0] rfl rfl (q0 := 0) (ci := 4) rfl rfl rfl) rfl rfl hl.1 rfl (lv_room (Nat.le_of_ble_eq_true rfl)) d_O_polynomial_61 ⟨Nat.le_of_ble_eq_true rfl, Nat.le_of_ble_eq_true rfl⟩) hP hD hS hA [0] [] rfl rfl rfl (by decide) (fun r u H locs hq hP hD hS hz => ?_)
        have hP : va_P (dC, dI) classes [(o0, .inr (4, [.int (nI 1), .long (lN p), .int (nI n), .long (lN vr), .int (nI ir), .long (lN od), .int (nI cc), .ref g1, .int (nI gc), .ref g2, .ref g3, .ref g4, .int (nI oc), .ref g5, .ref g6, .ref g7, .ref g8]))] H := hP
        have hD : va_D A [(o0, .inr (4, [.int (nI 1), .long (lN p), .int (nI n), .long (lN vr), .int (nI ir), .long (lN od), .int (nI cc), .ref g1, .int (nI gc), .ref g2, .ref g3, .ref g4, .int (nI oc), .ref g5, .ref g6, .ref g7, .ref g8]))] := hD
        subst hq
        refine lv_if_eq (tgt := 69) hx hb d_O_polynomial_64 (by decide) (fun hc => absurd hc (show ¬ (1 : Int32) = 0 from by decide)) (fun _ => ?_)
        refine lv_iconst (v := nI 0) hx hb d_O_polynomial_67 (by decide) ?_
        have hP := hP.sub (ws' := [(o0, .inr (4, [.int (nI 1), .long (lN p), .int (nI n), .long (lN vr), .int (nI ir), .long (lN od), .int (nI cc), .ref g1, .int (nI gc), .ref g2, .ref g3, .ref g4, .int (nI oc), .ref g5, .ref g6, .ref g7, .ref g8]))]) [0] rfl
        have hD := hD.sub (ws' := [(o0, .inr (4, [.int (nI 1), .long (lN p), .int (nI n), .long (lN vr), .int (nI ir), .long (lN od), .int (nI cc), .ref g1, .int (nI gc), .ref g2, .ref g3, .ref g4, .int (nI oc), .ref g5, .ref g6, .ref g7, .ref g8]))]) [0] (by decide) rfl
        exact W.iret (v := nI 0) hx hb hr (fun t9 ht hW => ⟨⟨nI 0, (), rfl, rfl, by rw [ht]; exact hP, va_K.moved hW.alike hK, hD⟩, hS.F ht⟩) hS.2.2 d_O_polynomial_68
      · have h2 : d ≤ 32 := Classical.byContradiction fun z => h2 ((nI_ltI (by decide) (by omega)).mpr (by omega))
        refine lv_lload_n hx hb d_O_polynomial_48 rfl (lv_at hl 1 rfl) ?_
        refine lv_lconst (v := lN 1) hx hb d_O_polynomial_49 (by decide) ?_
        refine lv_land hx hb d_O_polynomial_50 ?_
        refine lv_topl (nm_r (show _ = lN (p2 % 2) from g1_and hp0) ?_)
        refine lv_lconst (v := lN 0) hx hb d_O_polynomial_51 (by decide) ?_
        refine W.lcmp hx hb d_O_polynomial_52 ?_
        refine lv_if_ne (tgt := 60) hx hb d_O_polynomial_53 (by decide) (fun hc => absurd hc (fun z => z ((lg_cmp_eq _ _).mpr (lN_b0.mpr (fun q => hbad d (md_of hd (by omega) h2 q)))))) (fun _ => ?_)
        refine lv_iconst (v := nI 1) hx hb d_O_polynomial_56 (by decide) ?_
        refine lv_goto (tgt := 61) hx hb d_O_polynomial_57 (by decide) ?_
        refine wq_i (wr := []) (va_runV (As := [.int (nI 1)]) (rest := []) ⟨hx, hb, hml, hown, hts⟩ (c_O_refusedK l dC dI cI cL st.heap.size o0 g1 g2 g3 g4 g5 g6 g7 g8 fl p n vr ir od cc gc oc 1 (by decide) (by decide)) (cwV 1 hts (gi_V kw_588 kw_590 ks_O_refused kw_5 gi_O_refused) rfl rfl rfl ⟨rfl, by decide, by decide, by decide⟩ ⟨Nat.le_of_ble_eq_true rfl, Nat.le_of_ble_eq_true rfl⟩) (wq_preVW hP hD hK hN [0] rfl rfl (q0 := 0) (ci := 4) rfl rfl rfl) rfl rfl hl.1 rfl (lv_room (Nat.le_of_ble_eq_true rfl)) d_O_polynomial_61 ⟨Nat.le_of_ble_eq_true rfl, Nat.le_of_ble_eq_true rfl⟩) hP hD hS hA [0] [] rfl rfl rfl (by decide) (fun r u H locs hq hP hD hS hz => ?_)
        have hP : va_P (dC, dI) classes [(o0, .inr (4, [.int (nI 1), .long (lN p), .int (nI n), .long (lN vr), .int (nI ir), .long (lN od), .int (nI cc), .ref g1, .int (nI gc), .ref g2, .ref g3, .ref g4, .int (nI oc), .ref g5, .ref g6, .ref g7, .ref g8]))] H := hP
        have hD : va_D A [(o0, .inr (4, [.int (nI 1), .long (lN p), .int (nI n), .long (lN vr), .int (nI ir), .long (lN od), .int (nI cc), .ref g1, .int (nI gc), .ref g2, .ref g3, .ref g4, .int (nI oc), .ref g5, .ref g6, .ref g7, .ref g8]))] := hD
        subst hq
        refine lv_if_eq (tgt := 69) hx hb d_O_polynomial_64 (by decide) (fun hc => absurd hc (show ¬ (1 : Int32) = 0 from by decide)) (fun _ => ?_)
        refine lv_iconst (v := nI 0) hx hb d_O_polynomial_67 (by decide) ?_
        have hP := hP.sub (ws' := [(o0, .inr (4, [.int (nI 1), .long (lN p), .int (nI n), .long (lN vr), .int (nI ir), .long (lN od), .int (nI cc), .ref g1, .int (nI gc), .ref g2, .ref g3, .ref g4, .int (nI oc), .ref g5, .ref g6, .ref g7, .ref g8]))]) [0] rfl
        have hD := hD.sub (ws' := [(o0, .inr (4, [.int (nI 1), .long (lN p), .int (nI n), .long (lN vr), .int (nI ir), .long (lN od), .int (nI cc), .ref g1, .int (nI gc), .ref g2, .ref g3, .ref g4, .int (nI oc), .ref g5, .ref g6, .ref g7, .ref g8]))]) [0] (by decide) rfl
        exact W.iret (v := nI 0) hx hb hr (fun t9 ht hW => ⟨⟨nI 0, (), rfl, rfl, by rw [ht]; exact hP, va_K.moved hW.alike hK, hD⟩, hS.F ht⟩) hS.2.2 d_O_polynomial_68
  have loop : ∀ (j i : Nat), j + i = 64 → ∀ (ls : Array Slot), lv_has ls 5 [(0, .ref o0), (1, .long (lN p2)), (3, .int (jm (blen (p2 % 2 ^ i)))), (4, .int (nI i))] → W pg l en (headSpec w_O_polynomial ({ frames := 1, cells := 0, slots := 0, locals := 21 } : Room)).room st mm ([.ref o0, .long (lN p2)] : List Value).toArray bw me co st.heap [] 0 0 (MQ bw (va_Qi (fun (r : Int32) (u : Unit) => r = nI 0) (fun (u : Unit) t => wq_B (dC, dI) classes [(cI, .int), (cL, .long)] A [(o0, .inr (4, [.int (nI 1), .long (lN p), .int (nI n), .long (lN vr), .int (nI ir), .long (lN od), .int (nI cc), .ref g1, .int (nI gc), .ref g2, .ref g3, .ref g4, .int (nI oc), .ref g5, .ref g6, .ref g7, .ref g8]))] t) A) ([.ref o0, .long (lN p2)] : List Value).toArray st 0 0 A) (F0 mm 5 ls []) := by
    intro j
    induction j with
    | zero =>
      intro i hj ls hl
      refine lv_iload hx hb d_O_polynomial_5 (lv_at hl 3 rfl) ?_
      refine lv_bipush (v := nI 64) hx hb d_O_polynomial_7 (by decide) ?_
      refine lv_icmp_ge (tgt := 36) hx hb d_O_polynomial_9 (by decide) (fun hc => ?_) (fun hc => ?_)
      · have hi : i = 64 := by omega
        have e9 : (jm (blen (p2 % 2 ^ i))) = (jm (blen p2)) := by rw [hi, Nat.mod_eq_of_lt hp0]
        have hl : lv_has ls 5 [(0, .ref o0), (1, .long (lN p2)), (3, .int (jm (blen p2))), (4, .int (nI i))] := by rw [← e9]; exact hl
        have hl := lv_sub (l' := [(0, .ref o0), (1, .long (lN p2)), (3, .int (jm (blen p2)))]) hl [0, 1, 2] rfl
        exact tail ls hl
      · exact absurd ((nI_leI (by omega) (by omega)).mpr (by omega)) hc
    | succ j ih =>
      intro i hj ls hl
      have hbt := bl_turn p2 i
      refine lv_iload hx hb d_O_polynomial_5 (lv_at hl 3 rfl) ?_
      refine lv_bipush (v := nI 64) hx hb d_O_polynomial_7 (by decide) ?_
      refine lv_icmp_ge (tgt := 36) hx hb d_O_polynomial_9 (by decide) (fun hc => ?_) (fun hc => ?_)
      · exact absurd ((nI_leI (by omega) (by omega)).mp hc) (by omega)
      · refine lv_lload_n hx hb d_O_polynomial_12 rfl (lv_at hl 1 rfl) ?_
        refine lv_iload hx hb d_O_polynomial_13 (lv_at hl 3 rfl) ?_
        refine lv_lshr (v := lN p2 >>> ((nI i).toInt64 &&& 63)) hx hb d_O_polynomial_15 (rfl) ?_
        refine lv_lconst (v := lN 1) hx hb d_O_polynomial_16 (by decide) ?_
        refine lv_land hx hb d_O_polynomial_17 ?_
        refine lv_topl (nm_r (show _ = lN (p2 / 2 ^ i % 2) from sb1 hp0 (by omega)) ?_)
        refine lv_lconst (v := lN 1) hx hb d_O_polynomial_18 (by decide) ?_
        refine W.lcmp hx hb d_O_polynomial_19 ?_
        refine lv_if_ne (tgt := 28) hx hb d_O_polynomial_20 (by decide) (fun hbit => ?_) (fun hbit => ?_)
        · have hbit : ¬ p2 / 2 ^ i % 2 = 1 := fun z => cmq_ne hbit (by rw [z])
          rw [if_neg hbit] at hbt
          refine lv_iload_n hx hb d_O_polynomial_28 rfl (lv_at hl 2 rfl) ?_
          refine lv_topi (nm_r (show _ = jm (blen (p2 % 2 ^ (i + 1))) from by rw [hbt]) ?_)
          refine lv_istore_n (lv' := [(3, .int (jm (blen (p2 % 2 ^ (i + 1))))), (0, .ref o0), (1, .long (lN p2)), (4, .int (nI i))]) hx hb d_O_polynomial_29 rfl hl (by decide) rfl (fun ls hl => ?_)
          refine lv_iinc (v := nI (i + 1)) (lv' := [(4, .int (nI (i + 1))), (3, .int (jm (blen (p2 % 2 ^ (i + 1))))), (0, .ref o0), (1, .long (lN p2))]) hx hb d_O_polynomial_30 hl (k := 3) rfl (nI_1 i) (by decide) rfl (fun ls hl => ?_)
          refine lv_goto (tgt := 5) hx hb d_O_polynomial_33 (by decide) ?_
          have hl := lv_sub (l' := [(0, .ref o0), (1, .long (lN p2)), (3, .int (jm (blen (p2 % 2 ^ (i + 1))))), (4, .int (nI (i + 1)))]) hl [2, 3, 1, 0] rfl
          exact ih (i + 1) (by omega) ls hl
        · have hbit : p2 / 2 ^ i % 2 = 1 := lN_b1.mp (cmq_eq hbit)
          rw [if_pos hbit] at hbt
          refine lv_iload hx hb d_O_polynomial_23 (lv_at hl 3 rfl) ?_
          refine lv_goto (tgt := 29) hx hb d_O_polynomial_25 (by decide) ?_
          refine lv_topi (nm_r (show _ = jm (blen (p2 % 2 ^ (i + 1))) from by rw [hbt, jm_succ]) ?_)
          refine lv_istore_n (lv' := [(3, .int (jm (blen (p2 % 2 ^ (i + 1))))), (0, .ref o0), (1, .long (lN p2)), (4, .int (nI i))]) hx hb d_O_polynomial_29 rfl hl (by decide) rfl (fun ls hl => ?_)
          refine lv_iinc (v := nI (i + 1)) (lv' := [(4, .int (nI (i + 1))), (3, .int (jm (blen (p2 % 2 ^ (i + 1))))), (0, .ref o0), (1, .long (lN p2))]) hx hb d_O_polynomial_30 hl (k := 3) rfl (nI_1 i) (by decide) rfl (fun ls hl => ?_)
          refine lv_goto (tgt := 5) hx hb d_O_polynomial_33 (by decide) ?_
          have hl := lv_sub (l' := [(0, .ref o0), (1, .long (lN p2)), (3, .int (jm (blen (p2 % 2 ^ (i + 1))))), (4, .int (nI (i + 1)))]) hl [2, 3, 1, 0] rfl
          exact ih (i + 1) (by omega) ls hl
  refine lv_iconst (v := (-1)) hx hb d_O_polynomial_0 (by decide) ?_
  refine lv_istore_n (lv' := [(3, .int (-1)), (0, .ref o0), (1, .long (lN p2))]) hx hb d_O_polynomial_1 rfl hl (by decide) rfl (fun ls hl => ?_)
  refine lv_iconst (v := nI 0) hx hb d_O_polynomial_2 (by decide) ?_
  refine lv_istore (lv' := [(4, .int (nI 0)), (3, .int (-1)), (0, .ref o0), (1, .long (lN p2))]) hx hb d_O_polynomial_3 hl (by decide) rfl (fun ls hl => ?_)
  have e9 : (-1) = (jm (blen (p2 % 2 ^ 0))) := by rw [Nat.pow_zero, Nat.mod_one]; decide
  have hl : lv_has ls 5 [(4, .int (nI 0)), (3, .int (jm (blen (p2 % 2 ^ 0)))), (0, .ref o0), (1, .long (lN p2))] := by rw [← e9]; exact hl
  have hl := lv_sub (l' := [(0, .ref o0), (1, .long (lN p2)), (3, .int (jm (blen (p2 % 2 ^ 0)))), (4, .int (nI 0))]) hl [2, 3, 1, 0] rfl
  exact loop 64 0 rfl ls hl
