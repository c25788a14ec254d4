/-! contracts of ShiftSignatures: patterns, answers, sessions; laid by a program -/
/-- the answer at step t, with a fault or none -/
noncomputable def fa (p vr : Nat) (mk : Nat → Nat) (cc gc oc : Nat) (kd lf rg ol : Nat → Nat) (st : Option Nat) (t : Nat) : Nat := ci_a ol (ci_t cc kd lf rg (pt_n mk (rg_t p vr t) cc) st (cc + gc)) oc
theorem or_turn {a b i : Nat} (hlt : a < 2 ^ i) (hi : i < 16) (hb : b < 2) : nI a ||| (nI b <<< (nI i &&& 31)) = nI (a + b * 2 ^ i) := by
  have hp : 2 ^ i ≤ 2 ^ 15 := Nat.pow_le_pow_right (by decide) (by omega)
  have hs : ((nI i &&& 31).toBitVec.smod 32).toNat = i := (by decide +kernel : ∀ n, n < 32 → ((nI n &&& 31).toBitVec.smod 32).toNat = n) i (by omega)
  have hm : b * 2 ^ i ≤ 1 * 2 ^ i := Nat.mul_le_mul_right _ (by omega)
  rw [pk_shlN (nI i &&& 31) i hs (by omega)]
  have ho : nI a ||| nI (b * 2 ^ i) = nI (a ||| b * 2 ^ i) := by
    apply Int32.toBitVec_inj.1
    show BitVec.ofNat 32 _ ||| BitVec.ofNat 32 _ = BitVec.ofNat 32 _
    apply BitVec.eq_of_getLsbD_eq
    intro j hj
    simp [hj]
  rw [ho]
  congr 1
  rw [Nat.or_comm, ← Nat.shiftLeft_eq, ← Nat.shiftLeft_add_eq_or_of_lt hlt, Nat.shiftLeft_eq, Nat.add_comm]
theorem nI_injN {a b : Nat} (ha : a < 2 ^ 31) (hb : b < 2 ^ 31) (h : nI a = nI b) : a = b := by
  have h1 := (nI_leI ha hb).mp (by rw [h]; exact Int32.le_refl _)
  have h2 := (nI_leI hb ha).mp (by rw [h]; exact Int32.le_refl _)
  omega
set_option maxHeartbeats 4000000 in
set_option maxRecDepth 100000 in
theorem c_S_patternOf (l : Launch) (dC : Nat → ClassId) (dI : Nat → Nat → Nat) (cI cL : ClassId) (s0 m0 c0 e0 q1 : Nat) (vr : Nat) (k1 k2 k3 k4 k5 : Nat) (cc gc oc : Nat) (mk : Nat → Nat) (hmk : ∀ c, c < cc → mk c < 2 ^ 64) (hcc : cc ≤ 8) (v : Nat) (hv0 : v < 2 ^ 64) : Met l y_S_patternOf w_S_patternOf ({ frames := 1, cells := 0, slots := 0, locals := 21 } : Room) (va_Pc [.ref s0, .long (lN v)] (wq_R (dC, dI) classes [(s0, .inr (0, [.ref m0, .ref c0, .ref e0, .ref q1, .long (lN vr)])), (c0, .inr (2, [.ref k1, .ref k2, .ref k3, .ref k4, .ref k5, .int (nI cc), .int (nI gc), .int (nI oc)])), (q1, .inl (cL, 8, .inr (.inl (fun c => lN (mk c)))))] [(cI, .int), (cL, .long)])) (vp_Si (fun r => r = nI (pt_n mk v cc))) 0 0 (fun _ => False) := by
  refine Met.ofW (cc := b_S_patternOf) (maxL := 5) (ret := (Option.some Jvm.ClassFile.FieldType.int)) (by decide) rfl ?_
  intro pg en st mm ar bw me co s₁ B hml hv
  obtain ⟨rfl, hP, hK, hN⟩ := hv
  have hx := B.exec
  have hb := B.bytes
  have hr := B.returns
  have hlocks := B.notSynchronized
  have hts0 := atoms_spec (ws := w_S_patternOf) B.pre
  have hts : ∀ w ∈ gw, w.before _ st = true := fun w h => hts0 w (List.mem_cons_of_mem _ h)
  have hown : st.vm.findClass R_S = some mm.cls := findClass_of_methodNamed B.named
  have hl := lv_entry ([.ref s0, .long (lN v)]) (n := 5) (Nat.le_of_ble_eq_true rfl)
  rw [lg_entry_eq]
  generalize (lg_sl ([.ref s0, .long (lN v)]) ++ List.replicate (5 - (lg_sl ([.ref s0, .long (lN v)])).length) Slot.unset).toArray = ls at hl ⊢
  have hl : lv_has ls 5 [(0, .ref s0), (1, .long (lN v))] := hl
  have loop : ∀ (j i : Nat), j + i = cc → ∀ (ls : Array Slot), lv_has ls 5 [(0, .ref s0), (1, .long (lN v)), (3, .int (nI (pt_n mk v i))), (4, .int (nI i))] → W pg l en (headSpec w_S_patternOf ({ frames := 1, cells := 0, slots := 0, locals := 21 } : Room)).room st mm ([.ref s0, .long (lN v)] : List Value).toArray bw me co st.heap [] 0 0 (MQ bw (vp_Si (fun r => r = nI (pt_n mk v cc))) ([.ref s0, .long (lN v)] : List Value).toArray st 0 0 (fun _ => False)) (F0 mm 5 ls []) := by
    intro j
    induction j with
    | zero =>
      intro i hj ls hl
      refine lv_iload hx hb d_S_patternOf_5 (lv_at hl 3 rfl) ?_
      refine lv_aload_n hx hb d_S_patternOf_7 rfl (lv_at hl 0 rfl) ?_
      refine va_get (D := (dC, dI)) (ci := 0) (v := .ref c0) (C := R_S) (T := F_S) (N := 5) hx hb hts in_S hown hK hP 0 rfl rfl 1 (by decide) (hts _ kw_95) (fun _ h9 => h9) rfl d_S_patternOf_8 ?_
      refine va_getN (D := (dC, dI)) (ci := 2) (v := .int (nI cc)) (C := R_C) (T := F_C) (N := 8) hx hb hts in_C hown hK hP 1 rfl rfl 5 (by decide) (nw_use hN kw_55) (fun _ h9 => h9) rfl d_S_patternOf_11 ?_
      refine lv_icmp_ge (tgt := 43) hx hb d_S_patternOf_14 (by decide) (fun hc => ?_) (fun hc => ?_)
      · have hi : i = cc := by omega
        have e9 : (nI (pt_n mk v i)) = (nI (pt_n mk v cc)) := by rw [hi]
        have hl : lv_has ls 5 [(0, .ref s0), (1, .long (lN v)), (3, .int (nI (pt_n mk v cc))), (4, .int (nI i))] := by rw [← e9]; exact hl
        refine lv_iload_n hx hb d_S_patternOf_43 rfl (lv_at hl 2 rfl) ?_
        exact W.iret (v := nI (pt_n mk v cc)) hx hb hr (fun t9 ht hW => ⟨nI (pt_n mk v cc), rfl, rfl, ht⟩) (fun _ h => nomatch h) d_S_patternOf_44
      · exact absurd ((nI_leI (by omega) (by omega)).mpr (by omega)) hc
    | succ j ih =>
      intro i hj ls hl
      have hml2 := hmk i (by omega)
      refine lv_iload hx hb d_S_patternOf_5 (lv_at hl 3 rfl) ?_
      refine lv_aload_n hx hb d_S_patternOf_7 rfl (lv_at hl 0 rfl) ?_
      refine va_get (D := (dC, dI)) (ci := 0) (v := .ref c0) (C := R_S) (T := F_S) (N := 5) hx hb hts in_S hown hK hP 0 rfl rfl 1 (by decide) (hts _ kw_95) (fun _ h9 => h9) rfl d_S_patternOf_8 ?_
      refine va_getN (D := (dC, dI)) (ci := 2) (v := .int (nI cc)) (C := R_C) (T := F_C) (N := 8) hx hb hts in_C hown hK hP 1 rfl rfl 5 (by decide) (nw_use hN kw_55) (fun _ h9 => h9) rfl d_S_patternOf_11 ?_
      refine lv_icmp_ge (tgt := 43) hx hb d_S_patternOf_14 (by decide) (fun hc => ?_) (fun hc => ?_)
      · exact absurd ((nI_leI (by omega) (by omega)).mp hc) (by omega)
      · refine lv_iload_n hx hb d_S_patternOf_17 rfl (lv_at hl 2 rfl) ?_
        refine lv_lload_n hx hb d_S_patternOf_18 rfl (lv_at hl 1 rfl) ?_
        refine lv_aload_n hx hb d_S_patternOf_19 rfl (lv_at hl 0 rfl) ?_
        refine va_get (D := (dC, dI)) (ci := 0) (v := .ref q1) (C := R_S) (T := F_S) (N := 5) hx hb hts in_S hown hK hP 0 rfl rfl 3 (by decide) (hts _ kw_97) (fun _ h9 => h9) rfl d_S_patternOf_20 ?_
        refine lv_iload hx hb d_S_patternOf_23 (lv_at hl 3 rfl) ?_
        refine va_lald (D := (dC, dI)) hx hb hK hP 2 1 rfl rfl (vp_in_nI (by omega) (by decide)) d_S_patternOf_25 ?_
        refine lv_topl (nm_r (show _ = lN (mk i) from congrArg (fun c => lN (mk c)) (nI_clamp (by omega))) ?_)
        refine lv_land hx hb d_S_patternOf_26 ?_
        refine lv_topl (nm_r (show _ = lN (v &&& mk i) from wb_and hv0 hml2) ?_)
        refine vp_callSi (va_Run.run (va_runS (As := [.long (lN (v &&& mk i))]) (rest := [.int (nI (pt_n mk v i))]) ⟨hx, hb, hml, hown, hts⟩ (c_JL_bitCount l (v &&& mk i) (Nat.lt_of_le_of_lt Nat.and_le_left hv0)) (va_cwS 1 hts (gi_S kw_197 kw_198 kw_6 gi_JL_bitCount) rfl rfl rfl ⟨by decide, by decide, by decide⟩ ⟨Nat.le_of_ble_eq_true rfl, Nat.le_of_ble_eq_true rfl⟩) wq_preS0 rfl rfl hl.1 rfl (lv_room (Nat.le_of_ble_eq_true rfl)) d_S_patternOf_27 ⟨Nat.le_of_ble_eq_true rfl, Nat.le_of_ble_eq_true rfl⟩)) (fun r hq => ?_)
        subst hq
        refine lv_iconst (v := nI 1) hx hb d_S_patternOf_30 (by decide) ?_
        refine lv_iand hx hb d_S_patternOf_31 ?_
        refine lv_topi (nm_r (show _ = nI (pc_n (v &&& mk i) 64 % 2) from nI_and1 (Nat.lt_of_le_of_lt (pc_le _ 64) (by decide))) ?_)
        refine lv_iload hx hb d_S_patternOf_32 (lv_at hl 3 rfl) ?_
        refine lv_ishl hx hb d_S_patternOf_34 ?_
        refine lv_ior hx hb d_S_patternOf_35 ?_
        refine lv_topi (nm_r (show _ = nI (pt_n mk v (i + 1)) from or_turn (pt_lt mk v i) (by omega) (Nat.mod_lt _ (by decide))) ?_)
        refine lv_istore_n (lv' := [(3, .int (nI (pt_n mk v (i + 1)))), (0, .ref s0), (1, .long (lN v)), (4, .int (nI i))]) hx hb d_S_patternOf_36 rfl hl (by decide) rfl (fun ls hl => ?_)
        refine lv_iinc (v := nI (i + 1)) (lv' := [(4, .int (nI (i + 1))), (3, .int (nI (pt_n mk v (i + 1)))), (0, .ref s0), (1, .long (lN v))]) hx hb d_S_patternOf_37 hl (k := 3) rfl (nI_1 i) (by decide) rfl (fun ls hl => ?_)
        refine lv_goto (tgt := 5) hx hb d_S_patternOf_40 (by decide) ?_
        have hl := lv_sub (l' := [(0, .ref s0), (1, .long (lN v)), (3, .int (nI (pt_n mk v (i + 1)))), (4, .int (nI (i + 1)))]) hl [2, 3, 1, 0] rfl
        exact ih (i + 1) (by omega) ls hl
  refine lv_iconst (v := nI 0) hx hb d_S_patternOf_0 (by decide) ?_
  refine lv_istore_n (lv' := [(3, .int (nI 0)), (0, .ref s0), (1, .long (lN v))]) hx hb d_S_patternOf_1 rfl hl (by decide) rfl (fun ls hl => ?_)
  refine lv_iconst (v := nI 0) hx hb d_S_patternOf_2 (by decide) ?_
  refine lv_istore (lv' := [(4, .int (nI 0)), (3, .int (nI 0)), (0, .ref s0), (1, .long (lN v))]) hx hb d_S_patternOf_3 hl (by decide) rfl (fun ls hl => ?_)
  have hl := lv_sub (l' := [(0, .ref s0), (1, .long (lN v)), (3, .int (nI 0)), (4, .int (nI 0))]) hl [2, 3, 1, 0] rfl
  exact loop cc 0 rfl ls hl
set_option maxHeartbeats 4000000 in
set_option maxRecDepth 100000 in
theorem c_S_pattern (l : Launch) (dC : Nat → ClassId) (dI : Nat → Nat → Nat) (cI cL : ClassId) (s0 m0 c0 e0 q1 : Nat) (vr : Nat) (k1 k2 k3 k4 k5 : Nat) (cc gc oc : Nat) (mk : Nat → Nat) (hmk : ∀ c, c < cc → mk c < 2 ^ 64) (hcc : cc ≤ 8) (hv0 : vr < 2 ^ 64) : Met l y_S_pattern w_S_pattern ({ frames := 2, cells := 0, slots := 0, locals := 45 } : Room) (va_Pc [.ref s0] (wq_R (dC, dI) classes [(s0, .inr (0, [.ref m0, .ref c0, .ref e0, .ref q1, .long (lN vr)])), (c0, .inr (2, [.ref k1, .ref k2, .ref k3, .ref k4, .ref k5, .int (nI cc), .int (nI gc), .int (nI oc)])), (q1, .inl (cL, 8, .inr (.inl (fun c => lN (mk c)))))] [(cI, .int), (cL, .long)])) (vp_Si (fun r => r = nI (pt_n mk vr cc))) 0 0 (fun _ => False) := by
  refine Met.ofW (cc := b_S_pattern) (maxL := 1) (ret := (Option.some Jvm.ClassFile.FieldType.int)) (by decide) rfl ?_
  intro pg en st mm ar bw me co s₁ B hml hv
  obtain ⟨rfl, hP, hK, hN⟩ := hv
  have hx := B.exec
  have hb := B.bytes
  have hr := B.returns
  have hlocks := B.notSynchronized
  have hts0 := atoms_spec (ws := w_S_pattern) B.pre
  have hts : ∀ w ∈ gw, w.before _ st = true := fun w h => hts0 w (List.mem_cons_of_mem _ h)
  have hown : st.vm.findClass R_S = some mm.cls := findClass_of_methodNamed B.named
  have hl := lv_entry ([.ref s0]) (n := 1) (Nat.le_of_ble_eq_true rfl)
  rw [lg_entry_eq]
  generalize (lg_sl ([.ref s0]) ++ List.replicate (1 - (lg_sl ([.ref s0])).length) Slot.unset).toArray = ls at hl ⊢
  have hl : lv_has ls 1 [(0, .ref s0)] := hl
  refine lv_aload_n hx hb d_S_pattern_0 rfl (lv_at hl 0 rfl) ?_
  refine lv_aload_n hx hb d_S_pattern_1 rfl (lv_at hl 0 rfl) ?_
  refine va_get (D := (dC, dI)) (ci := 0) (v := .long (lN vr)) (C := R_S) (T := F_S) (N := 5) hx hb hts in_S hown hK hP 0 rfl rfl 4 (by decide) (hts _ kw_98) (fun _ h9 => h9) rfl d_S_pattern_2 ?_
  refine vp_callSi (va_Run.run (va_runV (As := [.long (lN vr)]) (rest := []) ⟨hx, hb, hml, hown, hts⟩ (c_S_patternOf l dC dI cI cL s0 m0 c0 e0 q1 vr k1 k2 k3 k4 k5 cc gc oc mk hmk hcc vr hv0) (cwV 1 hts (gi_V kw_193 kw_195 ks_S_patternOf kw_1 gi_S_patternOf) rfl rfl rfl ⟨rfl, by decide, by decide, by decide⟩ ⟨Nat.le_of_ble_eq_true rfl, Nat.le_of_ble_eq_true rfl⟩) (wq_preVR hP hK hN [0, 1, 2] rfl (q0 := 0) (ci := 0) rfl rfl rfl) rfl rfl hl.1 rfl (lv_room (Nat.le_of_ble_eq_true rfl)) d_S_pattern_5 ⟨Nat.le_of_ble_eq_true rfl, Nat.le_of_ble_eq_true rfl⟩)) (fun r hq => ?_)
  subst hq
  exact W.iret (v := nI (pt_n mk vr cc)) hx hb hr (fun t9 ht hW => ⟨nI (pt_n mk vr cc), rfl, rfl, ht⟩) (fun _ h => nomatch h) d_S_pattern_8
set_option maxHeartbeats 4000000 in
set_option maxRecDepth 100000 in
theorem c_S_answerN (l : Launch) (dC : Nat → ClassId) (dI : Nat → Nat → Nat) (cI cL : ClassId) (sz : Nat) (s0 m0 c0 e0 q1 : Nat) (vr : Nat) (k1 k2 k3 k4 k5 : Nat) (cc gc oc : Nat) (kd lf rg ol : Nat → Nat) (hk : ck cc gc oc kd lf rg ol) (vv : Nat → Nat) (pt : Nat) (hpt : pt < 2 ^ 32) : Met l y_S_answer w_S_answer ({ frames := 4, cells := 0, slots := 0, locals := 82 } : Room) (va_Pc [.ref s0, .int (nI pt), .int (-1)] (wq_W (dC, dI) classes [(s0, .inr (0, [.ref m0, .ref c0, .ref e0, .ref q1, .long (lN vr)])), (c0, .inr (2, [.ref k1, .ref k2, .ref k3, .ref k4, .ref k5, .int (nI cc), .int (nI gc), .int (nI oc)])), (k1, .inl (cI, 24, .inl (fun c => nI (kd c)))), (k2, .inl (cI, 24, .inl (fun c => nI (lf c)))), (k3, .inl (cI, 24, .inl (fun c => nI (rg c)))), (k4, .inl (cI, 16, .inl (fun c => nI (ol c)))), (k5, .inl (cL, 32, .inr (.inl (fun c => lN (vv c)))))] [(cI, .int), (cL, .long)] sz)) (va_Qi (fun (r : Int32) (u : Nat → Nat) => r = nI (ci_a ol (ci_t cc kd lf rg pt none (cc + gc)) oc)) (fun (u : Nat → Nat) t => wq_B (dC, dI) classes [(cI, .int), (cL, .long)] (va_A [(s0, .inr (0, [.ref m0, .ref c0, .ref e0, .ref q1, .long (lN vr)])), (c0, .inr (2, [.ref k1, .ref k2, .ref k3, .ref k4, .ref k5, .int (nI cc), .int (nI gc), .int (nI oc)])), (k1, .inl (cI, 24, .inl (fun c => nI (kd c)))), (k2, .inl (cI, 24, .inl (fun c => nI (lf c)))), (k3, .inl (cI, 24, .inl (fun c => nI (rg c)))), (k4, .inl (cI, 16, .inl (fun c => nI (ol c)))), (k5, .inl (cL, 32, .inr (.inl (fun c => lN (vv c)))))] sz) [(s0, .inr (0, [.ref m0, .ref c0, .ref e0, .ref q1, .long (lN vr)])), (c0, .inr (2, [.ref k1, .ref k2, .ref k3, .ref k4, .ref k5, .int (nI cc), .int (nI gc), .int (nI oc)])), (k1, .inl (cI, 24, .inl (fun c => nI (kd c)))), (k2, .inl (cI, 24, .inl (fun c => nI (lf c)))), (k3, .inl (cI, 24, .inl (fun c => nI (rg c)))), (k4, .inl (cI, 16, .inl (fun c => nI (ol c)))), (k5, .inl (cL, 32, .inr (.inl (fun c => lN (u c)))))] t) (va_A [(s0, .inr (0, [.ref m0, .ref c0, .ref e0, .ref q1, .long (lN vr)])), (c0, .inr (2, [.ref k1, .ref k2, .ref k3, .ref k4, .ref k5, .int (nI cc), .int (nI gc), .int (nI oc)])), (k1, .inl (cI, 24, .inl (fun c => nI (kd c)))), (k2, .inl (cI, 24, .inl (fun c => nI (lf c)))), (k3, .inl (cI, 24, .inl (fun c => nI (rg c)))), (k4, .inl (cI, 16, .inl (fun c => nI (ol c)))), (k5, .inl (cL, 32, .inr (.inl (fun c => lN (vv c)))))] sz)) 0 0 (va_A [(s0, .inr (0, [.ref m0, .ref c0, .ref e0, .ref q1, .long (lN vr)])), (c0, .inr (2, [.ref k1, .ref k2, .ref k3, .ref k4, .ref k5, .int (nI cc), .int (nI gc), .int (nI oc)])), (k1, .inl (cI, 24, .inl (fun c => nI (kd c)))), (k2, .inl (cI, 24, .inl (fun c => nI (lf c)))), (k3, .inl (cI, 24, .inl (fun c => nI (rg c)))), (k4, .inl (cI, 16, .inl (fun c => nI (ol c)))), (k5, .inl (cL, 32, .inr (.inl (fun c => lN (vv c)))))] sz) := by
  refine Met.ofW (cc := b_S_answer) (maxL := 3) (ret := (Option.some Jvm.ClassFile.FieldType.int)) (by decide) rfl ?_
  intro pg en st mm ar bw me co s₁ B hml hv
  obtain ⟨rfl, hsz, hP, hK, hD0, hN⟩ := hv
  have hx := B.exec
  have hb := B.bytes
  have hr := B.returns
  have hlocks := B.notSynchronized
  have hts0 := atoms_spec (ws := w_S_answer) B.pre
  have hts : ∀ w ∈ gw, w.before _ st = true := fun w h => hts0 w (List.mem_cons_of_mem _ h)
  have hown : st.vm.findClass R_S = some mm.cls := findClass_of_methodNamed B.named
  subst hsz
  have hD := hD0.self (sz := st.heap.size)
  generalize hAe : va_A [(s0, .inr (0, [.ref m0, .ref c0, .ref e0, .ref q1, .long (lN vr)])), (c0, .inr (2, [.ref k1, .ref k2, .ref k3, .ref k4, .ref k5, .int (nI cc), .int (nI gc), .int (nI oc)])), (k1, .inl (cI, 24, .inl (fun c => nI (kd c)))), (k2, .inl (cI, 24, .inl (fun c => nI (lf c)))), (k3, .inl (cI, 24, .inl (fun c => nI (rg c)))), (k4, .inl (cI, 16, .inl (fun c => nI (ol c)))), (k5, .inl (cL, 32, .inr (.inl (fun c => lN (vv c)))))] st.heap.size = A at hD ⊢
  have hA : ∀ q : Nat, st.heap.size ≤ q → A q := fun q h => by rw [← hAe]; exact Or.inr h
  have hS : va_S A st.heap st.heap [] := va_S.rf
  have hl := lv_entry ([.ref s0, .int (nI pt), .int (-1)]) (n := 3) (Nat.le_of_ble_eq_true rfl)
  rw [lg_entry_eq]
  generalize (lg_sl ([.ref s0, .int (nI pt), .int (-1)]) ++ List.replicate (3 - (lg_sl ([.ref s0, .int (nI pt), .int (-1)])).length) Slot.unset).toArray = ls at hl ⊢
  have hl : lv_has ls 3 [(0, .ref s0), (1, .int (nI pt)), (2, .int (-1))] := hl
  have h1 := hk.1
  have h2 := hk.2.1
  refine lv_aload_n hx hb d_S_answer_0 rfl (lv_at hl 0 rfl) ?_
  refine lv_iload_n hx hb d_S_answer_1 rfl (lv_at hl 2 rfl) ?_
  refine va_csv (va_Run.run (va_runV (As := [.int (-1)]) (rest := []) ⟨hx, hb, hml, hown, hts⟩ (c_S_requireFaultOrNoneN l dC dI cI cL s0 m0 c0 e0 q1 vr k1 k2 k3 k4 k5 cc gc oc) (cwV 1 hts (gi_V kw_416 kw_418 ks_S_requireFaultOrNone kw_1 gi_S_requireFaultOrNone) rfl rfl rfl ⟨rfl, by decide, by decide, by decide⟩ ⟨Nat.le_of_ble_eq_true rfl, Nat.le_of_ble_eq_true rfl⟩) (wq_preVR hP hK hN [0, 1] rfl (q0 := 0) (ci := 0) rfl rfl rfl) rfl rfl hl.1 rfl (lv_room (Nat.le_of_ble_eq_true rfl)) d_S_answer_2 ⟨Nat.le_of_ble_eq_true rfl, Nat.le_of_ble_eq_true rfl⟩)) (fun q1_ => ?_)
  refine lv_aload_n hx hb d_S_answer_5 rfl (lv_at hl 0 rfl) ?_
  refine va_get (D := (dC, dI)) (ci := 0) (v := .ref c0) (C := R_S) (T := F_S) (N := 5) hx hb hts in_S hown hK hP 0 rfl rfl 1 (by decide) (hts _ kw_95) (fun _ h9 => h9) rfl d_S_answer_6 ?_
  refine lv_iload_n hx hb d_S_answer_9 rfl (lv_at hl 1 rfl) ?_
  refine lv_iload_n hx hb d_S_answer_10 rfl (lv_at hl 2 rfl) ?_
  refine wq_i (wr := [(s0, .inr (0, [.ref m0, .ref c0, .ref e0, .ref q1, .long (lN vr)]))]) (va_runVN (As := [.int (nI pt), .int (-1)]) (rest := []) ⟨hx, hb, hml, hown, hts⟩ (c_C_answerToN l dC dI cI cL st.heap.size c0 k1 k2 k3 k4 k5 cc gc oc kd lf rg ol vv hk pt hpt) ⟨va_cnB 2 hts gi_C_answerTo rfl rfl rfl (hN _ kw_429) (hts _ kw_3) ⟨by decide, by decide, by decide⟩ ⟨Nat.le_of_ble_eq_true rfl, Nat.le_of_ble_eq_true rfl⟩, hts _ kw_431, hts _ ks_C_answerTo⟩ (wq_preVW hP hD hK hN [1, 2, 3, 4, 5, 6] rfl rfl (q0 := 1) (ci := 2) rfl rfl rfl) rfl rfl hl.1 rfl (lv_room (Nat.le_of_ble_eq_true rfl)) d_S_answer_11 ⟨Nat.le_of_ble_eq_true rfl, Nat.le_of_ble_eq_true rfl⟩) hP hD hS hA [1, 2, 3, 4, 5, 6] [0] rfl rfl rfl (by decide) (fun r u H locs hq hP hD hS hz => ?_)
  have hP : va_P (dC, dI) classes [(s0, .inr (0, [.ref m0, .ref c0, .ref e0, .ref q1, .long (lN vr)])), (c0, .inr (2, [.ref k1, .ref k2, .ref k3, .ref k4, .ref k5, .int (nI cc), .int (nI gc), .int (nI oc)])), (k1, .inl (cI, 24, .inl (fun c => nI (kd c)))), (k2, .inl (cI, 24, .inl (fun c => nI (lf c)))), (k3, .inl (cI, 24, .inl (fun c => nI (rg c)))), (k4, .inl (cI, 16, .inl (fun c => nI (ol c)))), (k5, .inl (cL, 32, .inr (.inl (fun c => lN (u c)))))] H := hP
  have hD : va_D A [(s0, .inr (0, [.ref m0, .ref c0, .ref e0, .ref q1, .long (lN vr)])), (c0, .inr (2, [.ref k1, .ref k2, .ref k3, .ref k4, .ref k5, .int (nI cc), .int (nI gc), .int (nI oc)])), (k1, .inl (cI, 24, .inl (fun c => nI (kd c)))), (k2, .inl (cI, 24, .inl (fun c => nI (lf c)))), (k3, .inl (cI, 24, .inl (fun c => nI (rg c)))), (k4, .inl (cI, 16, .inl (fun c => nI (ol c)))), (k5, .inl (cL, 32, .inr (.inl (fun c => lN (u c)))))] := hD
  subst hq
  have hP := hP.sub (ws' := [(s0, .inr (0, [.ref m0, .ref c0, .ref e0, .ref q1, .long (lN vr)])), (c0, .inr (2, [.ref k1, .ref k2, .ref k3, .ref k4, .ref k5, .int (nI cc), .int (nI gc), .int (nI oc)])), (k1, .inl (cI, 24, .inl (fun c => nI (kd c)))), (k2, .inl (cI, 24, .inl (fun c => nI (lf c)))), (k3, .inl (cI, 24, .inl (fun c => nI (rg c)))), (k4, .inl (cI, 16, .inl (fun c => nI (ol c)))), (k5, .inl (cL, 32, .inr (.inl (fun c => lN (u c)))))]) [0, 1, 2, 3, 4, 5, 6] rfl
  have hD := hD.sub (ws' := [(s0, .inr (0, [.ref m0, .ref c0, .ref e0, .ref q1, .long (lN vr)])), (c0, .inr (2, [.ref k1, .ref k2, .ref k3, .ref k4, .ref k5, .int (nI cc), .int (nI gc), .int (nI oc)])), (k1, .inl (cI, 24, .inl (fun c => nI (kd c)))), (k2, .inl (cI, 24, .inl (fun c => nI (lf c)))), (k3, .inl (cI, 24, .inl (fun c => nI (rg c)))), (k4, .inl (cI, 16, .inl (fun c => nI (ol c)))), (k5, .inl (cL, 32, .inr (.inl (fun c => lN (u c)))))]) [0, 1, 2, 3, 4, 5, 6] (by decide) rfl
  exact W.iret (v := nI (ci_a ol (ci_t cc kd lf rg pt none (cc + gc)) oc)) hx hb hr (fun t9 ht hW => ⟨⟨nI (ci_a ol (ci_t cc kd lf rg pt none (cc + gc)) oc), u, rfl, rfl, by rw [ht]; exact hP, va_K.moved hW.alike hK, hD⟩, hS.F ht⟩) hS.2.2 d_S_answer_14
set_option maxHeartbeats 4000000 in
set_option maxRecDepth 100000 in
theorem c_S_answerF (l : Launch) (dC : Nat → ClassId) (dI : Nat → Nat → Nat) (cI cL : ClassId) (sz : Nat) (s0 m0 c0 e0 q1 : Nat) (vr : Nat) (k1 k2 k3 k4 k5 : Nat) (cc gc oc : Nat) (kd lf rg ol : Nat → Nat) (hk : ck cc gc oc kd lf rg ol) (vv : Nat → Nat) (pt : Nat) (hpt : pt < 2 ^ 32) (ff : Nat) (hff : ff < 2 * (cc + gc)) : Met l y_S_answer w_S_answer ({ frames := 4, cells := 0, slots := 0, locals := 82 } : Room) (va_Pc [.ref s0, .int (nI pt), .int (nI ff)] (wq_W (dC, dI) classes [(s0, .inr (0, [.ref m0, .ref c0, .ref e0, .ref q1, .long (lN vr)])), (c0, .inr (2, [.ref k1, .ref k2, .ref k3, .ref k4, .ref k5, .int (nI cc), .int (nI gc), .int (nI oc)])), (k1, .inl (cI, 24, .inl (fun c => nI (kd c)))), (k2, .inl (cI, 24, .inl (fun c => nI (lf c)))), (k3, .inl (cI, 24, .inl (fun c => nI (rg c)))), (k4, .inl (cI, 16, .inl (fun c => nI (ol c)))), (k5, .inl (cL, 32, .inr (.inl (fun c => lN (vv c)))))] [(cI, .int), (cL, .long)] sz)) (va_Qi (fun (r : Int32) (u : Nat → Nat) => r = nI (ci_a ol (ci_t cc kd lf rg pt (some ff) (cc + gc)) oc)) (fun (u : Nat → Nat) t => wq_B (dC, dI) classes [(cI, .int), (cL, .long)] (va_A [(s0, .inr (0, [.ref m0, .ref c0, .ref e0, .ref q1, .long (lN vr)])), (c0, .inr (2, [.ref k1, .ref k2, .ref k3, .ref k4, .ref k5, .int (nI cc), .int (nI gc), .int (nI oc)])), (k1, .inl (cI, 24, .inl (fun c => nI (kd c)))), (k2, .inl (cI, 24, .inl (fun c => nI (lf c)))), (k3, .inl (cI, 24, .inl (fun c => nI (rg c)))), (k4, .inl (cI, 16, .inl (fun c => nI (ol c)))), (k5, .inl (cL, 32, .inr (.inl (fun c => lN (vv c)))))] sz) [(s0, .inr (0, [.ref m0, .ref c0, .ref e0, .ref q1, .long (lN vr)])), (c0, .inr (2, [.ref k1, .ref k2, .ref k3, .ref k4, .ref k5, .int (nI cc), .int (nI gc), .int (nI oc)])), (k1, .inl (cI, 24, .inl (fun c => nI (kd c)))), (k2, .inl (cI, 24, .inl (fun c => nI (lf c)))), (k3, .inl (cI, 24, .inl (fun c => nI (rg c)))), (k4, .inl (cI, 16, .inl (fun c => nI (ol c)))), (k5, .inl (cL, 32, .inr (.inl (fun c => lN (u c)))))] t) (va_A [(s0, .inr (0, [.ref m0, .ref c0, .ref e0, .ref q1, .long (lN vr)])), (c0, .inr (2, [.ref k1, .ref k2, .ref k3, .ref k4, .ref k5, .int (nI cc), .int (nI gc), .int (nI oc)])), (k1, .inl (cI, 24, .inl (fun c => nI (kd c)))), (k2, .inl (cI, 24, .inl (fun c => nI (lf c)))), (k3, .inl (cI, 24, .inl (fun c => nI (rg c)))), (k4, .inl (cI, 16, .inl (fun c => nI (ol c)))), (k5, .inl (cL, 32, .inr (.inl (fun c => lN (vv c)))))] sz)) 0 0 (va_A [(s0, .inr (0, [.ref m0, .ref c0, .ref e0, .ref q1, .long (lN vr)])), (c0, .inr (2, [.ref k1, .ref k2, .ref k3, .ref k4, .ref k5, .int (nI cc), .int (nI gc), .int (nI oc)])), (k1, .inl (cI, 24, .inl (fun c => nI (kd c)))), (k2, .inl (cI, 24, .inl (fun c => nI (lf c)))), (k3, .inl (cI, 24, .inl (fun c => nI (rg c)))), (k4, .inl (cI, 16, .inl (fun c => nI (ol c)))), (k5, .inl (cL, 32, .inr (.inl (fun c => lN (vv c)))))] sz) := by
  refine Met.ofW (cc := b_S_answer) (maxL := 3) (ret := (Option.some Jvm.ClassFile.FieldType.int)) (by decide) rfl ?_
  intro pg en st mm ar bw me co s₁ B hml hv
  obtain ⟨rfl, hsz, hP, hK, hD0, hN⟩ := hv
  have hx := B.exec
  have hb := B.bytes
  have hr := B.returns
  have hlocks := B.notSynchronized
  have hts0 := atoms_spec (ws := w_S_answer) B.pre
  have hts : ∀ w ∈ gw, w.before _ st = true := fun w h => hts0 w (List.mem_cons_of_mem _ h)
  have hown : st.vm.findClass R_S = some mm.cls := findClass_of_methodNamed B.named
  subst hsz
  have hD := hD0.self (sz := st.heap.size)
  generalize hAe : va_A [(s0, .inr (0, [.ref m0, .ref c0, .ref e0, .ref q1, .long (lN vr)])), (c0, .inr (2, [.ref k1, .ref k2, .ref k3, .ref k4, .ref k5, .int (nI cc), .int (nI gc), .int (nI oc)])), (k1, .inl (cI, 24, .inl (fun c => nI (kd c)))), (k2, .inl (cI, 24, .inl (fun c => nI (lf c)))), (k3, .inl (cI, 24, .inl (fun c => nI (rg c)))), (k4, .inl (cI, 16, .inl (fun c => nI (ol c)))), (k5, .inl (cL, 32, .inr (.inl (fun c => lN (vv c)))))] st.heap.size = A at hD ⊢
  have hA : ∀ q : Nat, st.heap.size ≤ q → A q := fun q h => by rw [← hAe]; exact Or.inr h
  have hS : va_S A st.heap st.heap [] := va_S.rf
  have hl := lv_entry ([.ref s0, .int (nI pt), .int (nI ff)]) (n := 3) (Nat.le_of_ble_eq_true rfl)
  rw [lg_entry_eq]
  generalize (lg_sl ([.ref s0, .int (nI pt), .int (nI ff)]) ++ List.replicate (3 - (lg_sl ([.ref s0, .int (nI pt), .int (nI ff)])).length) Slot.unset).toArray = ls at hl ⊢
  have hl : lv_has ls 3 [(0, .ref s0), (1, .int (nI pt)), (2, .int (nI ff))] := hl
  have h1 := hk.1
  have h2 := hk.2.1
  refine lv_aload_n hx hb d_S_answer_0 rfl (lv_at hl 0 rfl) ?_
  refine lv_iload_n hx hb d_S_answer_1 rfl (lv_at hl 2 rfl) ?_
  refine va_csv (va_Run.run (va_runV (As := [.int (nI ff)]) (rest := []) ⟨hx, hb, hml, hown, hts⟩ (c_S_requireFaultOrNoneF l dC dI cI cL s0 m0 c0 e0 q1 vr k1 k2 k3 k4 k5 cc gc oc ff hff (by omega)) (cwV 1 hts (gi_V kw_416 kw_418 ks_S_requireFaultOrNone kw_1 gi_S_requireFaultOrNone) rfl rfl rfl ⟨rfl, by decide, by decide, by decide⟩ ⟨Nat.le_of_ble_eq_true rfl, Nat.le_of_ble_eq_true rfl⟩) (wq_preVR hP hK hN [0, 1] rfl (q0 := 0) (ci := 0) rfl rfl rfl) rfl rfl hl.1 rfl (lv_room (Nat.le_of_ble_eq_true rfl)) d_S_answer_2 ⟨Nat.le_of_ble_eq_true rfl, Nat.le_of_ble_eq_true rfl⟩)) (fun q1_ => ?_)
  refine lv_aload_n hx hb d_S_answer_5 rfl (lv_at hl 0 rfl) ?_
  refine va_get (D := (dC, dI)) (ci := 0) (v := .ref c0) (C := R_S) (T := F_S) (N := 5) hx hb hts in_S hown hK hP 0 rfl rfl 1 (by decide) (hts _ kw_95) (fun _ h9 => h9) rfl d_S_answer_6 ?_
  refine lv_iload_n hx hb d_S_answer_9 rfl (lv_at hl 1 rfl) ?_
  refine lv_iload_n hx hb d_S_answer_10 rfl (lv_at hl 2 rfl) ?_
  refine wq_i (wr := [(s0, .inr (0, [.ref m0, .ref c0, .ref e0, .ref q1, .long (lN vr)]))]) (va_runVN (As := [.int (nI pt), .int (nI ff)]) (rest := []) ⟨hx, hb, hml, hown, hts⟩ (c_C_answerToF l dC dI cI cL st.heap.size c0 k1 k2 k3 k4 k5 cc gc oc kd lf rg ol vv hk pt hpt ff (by omega)) ⟨va_cnB 2 hts gi_C_answerTo rfl rfl rfl (hN _ kw_429) (hts _ kw_3) ⟨by decide, by decide, by decide⟩ ⟨Nat.le_of_ble_eq_true rfl, Nat.le_of_ble_eq_true rfl⟩, hts _ kw_431, hts _ ks_C_answerTo⟩ (wq_preVW hP hD hK hN [1, 2, 3, 4, 5, 6] rfl rfl (q0 := 1) (ci := 2) rfl rfl rfl) rfl rfl hl.1 rfl (lv_room (Nat.le_of_ble_eq_true rfl)) d_S_answer_11 ⟨Nat.le_of_ble_eq_true rfl, Nat.le_of_ble_eq_true rfl⟩) hP hD hS hA [1, 2, 3, 4, 5, 6] [0] rfl rfl rfl (by decide) (fun r u H locs hq hP hD hS hz => ?_)
  have hP : va_P (dC, dI) classes [(s0, .inr (0, [.ref m0, .ref c0, .ref e0, .ref q1, .long (lN vr)])), (c0, .inr (2, [.ref k1, .ref k2, .ref k3, .ref k4, .ref k5, .int (nI cc), .int (nI gc), .int (nI oc)])), (k1, .inl (cI, 24, .inl (fun c => nI (kd c)))), (k2, .inl (cI, 24, .inl (fun c => nI (lf c)))), (k3, .inl (cI, 24, .inl (fun c => nI (rg c)))), (k4, .inl (cI, 16, .inl (fun c => nI (ol c)))), (k5, .inl (cL, 32, .inr (.inl (fun c => lN (u c)))))] H := hP
  have hD : va_D A [(s0, .inr (0, [.ref m0, .ref c0, .ref e0, .ref q1, .long (lN vr)])), (c0, .inr (2, [.ref k1, .ref k2, .ref k3, .ref k4, .ref k5, .int (nI cc), .int (nI gc), .int (nI oc)])), (k1, .inl (cI, 24, .inl (fun c => nI (kd c)))), (k2, .inl (cI, 24, .inl (fun c => nI (lf c)))), (k3, .inl (cI, 24, .inl (fun c => nI (rg c)))), (k4, .inl (cI, 16, .inl (fun c => nI (ol c)))), (k5, .inl (cL, 32, .inr (.inl (fun c => lN (u c)))))] := hD
  subst hq
  have hP := hP.sub (ws' := [(s0, .inr (0, [.ref m0, .ref c0, .ref e0, .ref q1, .long (lN vr)])), (c0, .inr (2, [.ref k1, .ref k2, .ref k3, .ref k4, .ref k5, .int (nI cc), .int (nI gc), .int (nI oc)])), (k1, .inl (cI, 24, .inl (fun c => nI (kd c)))), (k2, .inl (cI, 24, .inl (fun c => nI (lf c)))), (k3, .inl (cI, 24, .inl (fun c => nI (rg c)))), (k4, .inl (cI, 16, .inl (fun c => nI (ol c)))), (k5, .inl (cL, 32, .inr (.inl (fun c => lN (u c)))))]) [0, 1, 2, 3, 4, 5, 6] rfl
  have hD := hD.sub (ws' := [(s0, .inr (0, [.ref m0, .ref c0, .ref e0, .ref q1, .long (lN vr)])), (c0, .inr (2, [.ref k1, .ref k2, .ref k3, .ref k4, .ref k5, .int (nI cc), .int (nI gc), .int (nI oc)])), (k1, .inl (cI, 24, .inl (fun c => nI (kd c)))), (k2, .inl (cI, 24, .inl (fun c => nI (lf c)))), (k3, .inl (cI, 24, .inl (fun c => nI (rg c)))), (k4, .inl (cI, 16, .inl (fun c => nI (ol c)))), (k5, .inl (cL, 32, .inr (.inl (fun c => lN (u c)))))]) [0, 1, 2, 3, 4, 5, 6] (by decide) rfl
  exact W.iret (v := nI (ci_a ol (ci_t cc kd lf rg pt (some ff) (cc + gc)) oc)) hx hb hr (fun t9 ht hW => ⟨⟨nI (ci_a ol (ci_t cc kd lf rg pt (some ff) (cc + gc)) oc), u, rfl, rfl, by rw [ht]; exact hP, va_K.moved hW.alike hK, hD⟩, hS.F ht⟩) hS.2.2 d_S_answer_14
set_option maxHeartbeats 4000000 in
set_option maxRecDepth 100000 in
theorem x_S_answer (l : Launch) (dC : Nat → ClassId) (dI : Nat → Nat → Nat) (cI cL : ClassId) (hlt : l.stackTraces = false) (sz : Nat) (s0 m0 c0 e0 q1 : Nat) (vr : Nat) (k1 k2 k3 k4 k5 : Nat) (cc gc oc : Nat) (y1 y : Int32) (hy : y < 0 ∨ ¬ y < nI (2 * (cc + gc))) (hm1 : y ≠ -1) : vx_Met l y_S_answer w_S_answer ({ frames := 8, cells := 1, slots := 6, locals := 124 } : Room) (va_Pc [.ref s0, .int y1, .int y] (wq_X (dC, dI) classes [(s0, .inr (0, [.ref m0, .ref c0, .ref e0, .ref q1, .long (lN vr)])), (c0, .inr (2, [.ref k1, .ref k2, .ref k3, .ref k4, .ref k5, .int (nI cc), .int (nI gc), .int (nI oc)]))] [(cI, .int), (cL, .long)] sz)) (xq_i sz) (xq "java/lang/IndexOutOfBoundsException" sz) 1 6 (fun q => sz ≤ q) := by
  refine vx_ofW (cc := b_S_answer) (maxL := 3) (ret := (Option.some Jvm.ClassFile.FieldType.int)) (by decide) rfl ?_
  intro pg en st mm ar bw me co s₁ B hml hex hv
  obtain ⟨rfl, hsz, ⟨hP, hK, hN⟩, hE, hZ⟩ := hv
  subst hsz
  have hx := B.exec
  have hb := B.bytes
  have hr := B.returns
  have hlocks := B.notSynchronized
  have hts0 := atoms_spec (ws := w_S_answer) B.pre
  have hts : ∀ w ∈ gw, w.before _ st = true := fun w h => hts0 w (List.mem_cons_of_mem _ h)
  have hown : st.vm.findClass R_S = some mm.cls := findClass_of_methodNamed B.named
  have hl := lv_entry ([.ref s0, .int y1, .int y]) (n := 3) (Nat.le_of_ble_eq_true rfl)
  rw [lg_entry_eq]
  generalize (lg_sl ([.ref s0, .int y1, .int y]) ++ List.replicate (3 - (lg_sl ([.ref s0, .int y1, .int y])).length) Slot.unset).toArray = ls at hl ⊢
  have hl : lv_has ls 3 [(0, .ref s0), (1, .int y1), (2, .int y)] := hl
  refine lv_aload_n hx hb d_S_answer_0 rfl (lv_at hl 0 rfl) ?_
  refine lv_iload_n hx hb d_S_answer_1 rfl (lv_at hl 2 rfl) ?_
  exact xq_cv (cells := 0) (slots := 0) (mc := 1) (ms := 6) (MC := 1) (MS := 6) (vx_runV (As := [.int y]) (rest := []) ⟨hx, hb, hml, hown, hts⟩ (x_S_requireFaultOrNone l dC dI cI cL hlt st.heap.size s0 m0 c0 e0 q1 vr k1 k2 k3 k4 k5 cc gc oc y hy hm1) (cwV 1 hts (gi_V kw_416 kw_418 ks_S_requireFaultOrNone kw_1 gi_S_requireFaultOrNone) rfl rfl rfl ⟨rfl, by decide, by decide, by decide⟩ ⟨Nat.le_of_ble_eq_true rfl, Nat.le_of_ble_eq_true rfl⟩) (wq_preVX hP hK hN hE hZ [0, 1] rfl (q0 := 0) (ci := 0) rfl rfl rfl) rfl rfl hl.1 rfl (lv_room (Nat.le_of_ble_eq_true rfl)) d_S_answer_2 ⟨Nat.le_of_ble_eq_true rfl, Nat.le_of_ble_eq_true rfl⟩) hex hlocks (Nat.le_of_ble_eq_true rfl) (Nat.le_of_ble_eq_true rfl)
set_option maxHeartbeats 4000000 in
set_option maxRecDepth 100000 in
theorem c_S_sessionN (l : Launch) (dC : Nat → ClassId) (dI : Nat → Nat → Nat) (cI cL : ClassId) (sz : Nat) (s0 m0 c0 e0 q1 : Nat) (vr : Nat) (p n : Nat) (hm : md p n) (k1 k2 k3 k4 k5 : Nat) (cc gc oc : Nat) (kd lf rg ol : Nat → Nat) (hk : ck cc gc oc kd lf rg ol) (vv : Nat → Nat) (mk : Nat → Nat) (hmk : ∀ c, c < cc → mk c < 2 ^ 64) (hvr : vr < 2 ^ n) (m : Nat) (hmm : m ≤ 256) : Met l y_S_session w_S_session ({ frames := 5, cells := 0, slots := 0, locals := 113 } : Room) (va_Pc [.ref s0, .int (nI m), .int (-1)] (wq_W (dC, dI) classes [(s0, .inr (0, [.ref m0, .ref c0, .ref e0, .ref q1, .long (lN vr)])), (m0, .inr (1, [.long (lN p), .int (nI n), .long (lN (px_r p 2))])), (c0, .inr (2, [.ref k1, .ref k2, .ref k3, .ref k4, .ref k5, .int (nI cc), .int (nI gc), .int (nI oc)])), (k1, .inl (cI, 24, .inl (fun c => nI (kd c)))), (k2, .inl (cI, 24, .inl (fun c => nI (lf c)))), (k3, .inl (cI, 24, .inl (fun c => nI (rg c)))), (k4, .inl (cI, 16, .inl (fun c => nI (ol c)))), (k5, .inl (cL, 32, .inr (.inl (fun c => lN (vv c))))), (q1, .inl (cL, 8, .inr (.inl (fun c => lN (mk c)))))] [(cI, .int), (cL, .long)] sz)) (va_Ql (fun (r : Int64) (u : Nat → Nat) => r = lN (sg p (fun t => fa p vr mk cc gc oc kd lf rg ol none t) m)) (fun (u : Nat → Nat) t => wq_B (dC, dI) classes [(cI, .int), (cL, .long)] (va_A [(s0, .inr (0, [.ref m0, .ref c0, .ref e0, .ref q1, .long (lN vr)])), (m0, .inr (1, [.long (lN p), .int (nI n), .long (lN (px_r p 2))])), (c0, .inr (2, [.ref k1, .ref k2, .ref k3, .ref k4, .ref k5, .int (nI cc), .int (nI gc), .int (nI oc)])), (k1, .inl (cI, 24, .inl (fun c => nI (kd c)))), (k2, .inl (cI, 24, .inl (fun c => nI (lf c)))), (k3, .inl (cI, 24, .inl (fun c => nI (rg c)))), (k4, .inl (cI, 16, .inl (fun c => nI (ol c)))), (k5, .inl (cL, 32, .inr (.inl (fun c => lN (vv c))))), (q1, .inl (cL, 8, .inr (.inl (fun c => lN (mk c)))))] sz) [(s0, .inr (0, [.ref m0, .ref c0, .ref e0, .ref q1, .long (lN vr)])), (m0, .inr (1, [.long (lN p), .int (nI n), .long (lN (px_r p 2))])), (c0, .inr (2, [.ref k1, .ref k2, .ref k3, .ref k4, .ref k5, .int (nI cc), .int (nI gc), .int (nI oc)])), (k1, .inl (cI, 24, .inl (fun c => nI (kd c)))), (k2, .inl (cI, 24, .inl (fun c => nI (lf c)))), (k3, .inl (cI, 24, .inl (fun c => nI (rg c)))), (k4, .inl (cI, 16, .inl (fun c => nI (ol c)))), (k5, .inl (cL, 32, .inr (.inl (fun c => lN (u c))))), (q1, .inl (cL, 8, .inr (.inl (fun c => lN (mk c)))))] t) (va_A [(s0, .inr (0, [.ref m0, .ref c0, .ref e0, .ref q1, .long (lN vr)])), (m0, .inr (1, [.long (lN p), .int (nI n), .long (lN (px_r p 2))])), (c0, .inr (2, [.ref k1, .ref k2, .ref k3, .ref k4, .ref k5, .int (nI cc), .int (nI gc), .int (nI oc)])), (k1, .inl (cI, 24, .inl (fun c => nI (kd c)))), (k2, .inl (cI, 24, .inl (fun c => nI (lf c)))), (k3, .inl (cI, 24, .inl (fun c => nI (rg c)))), (k4, .inl (cI, 16, .inl (fun c => nI (ol c)))), (k5, .inl (cL, 32, .inr (.inl (fun c => lN (vv c))))), (q1, .inl (cL, 8, .inr (.inl (fun c => lN (mk c)))))] sz)) 0 0 (va_A [(s0, .inr (0, [.ref m0, .ref c0, .ref e0, .ref q1, .long (lN vr)])), (m0, .inr (1, [.long (lN p), .int (nI n), .long (lN (px_r p 2))])), (c0, .inr (2, [.ref k1, .ref k2, .ref k3, .ref k4, .ref k5, .int (nI cc), .int (nI gc), .int (nI oc)])), (k1, .inl (cI, 24, .inl (fun c => nI (kd c)))), (k2, .inl (cI, 24, .inl (fun c => nI (lf c)))), (k3, .inl (cI, 24, .inl (fun c => nI (rg c)))), (k4, .inl (cI, 16, .inl (fun c => nI (ol c)))), (k5, .inl (cL, 32, .inr (.inl (fun c => lN (vv c))))), (q1, .inl (cL, 8, .inr (.inl (fun c => lN (mk c)))))] sz) := by
  refine Met.ofW (cc := b_S_session) (maxL := 9) (ret := (Option.some Jvm.ClassFile.FieldType.long)) (by decide) rfl ?_
  intro pg en st mm ar bw me co s₁ B hml hv
  obtain ⟨rfl, hsz, hP, hK, hD0, hN⟩ := hv
  have hx := B.exec
  have hb := B.bytes
  have hr := B.returns
  have hlocks := B.notSynchronized
  have hts0 := atoms_spec (ws := w_S_session) B.pre
  have hts : ∀ w ∈ gw, w.before _ st = true := fun w h => hts0 w (List.mem_cons_of_mem _ h)
  have hown : st.vm.findClass R_S = some mm.cls := findClass_of_methodNamed B.named
  subst hsz
  have hD := hD0.self (sz := st.heap.size)
  generalize hAe : va_A [(s0, .inr (0, [.ref m0, .ref c0, .ref e0, .ref q1, .long (lN vr)])), (m0, .inr (1, [.long (lN p), .int (nI n), .long (lN (px_r p 2))])), (c0, .inr (2, [.ref k1, .ref k2, .ref k3, .ref k4, .ref k5, .int (nI cc), .int (nI gc), .int (nI oc)])), (k1, .inl (cI, 24, .inl (fun c => nI (kd c)))), (k2, .inl (cI, 24, .inl (fun c => nI (lf c)))), (k3, .inl (cI, 24, .inl (fun c => nI (rg c)))), (k4, .inl (cI, 16, .inl (fun c => nI (ol c)))), (k5, .inl (cL, 32, .inr (.inl (fun c => lN (vv c))))), (q1, .inl (cL, 8, .inr (.inl (fun c => lN (mk c)))))] st.heap.size = A at hD ⊢
  have hA : ∀ q : Nat, st.heap.size ≤ q → A q := fun q h => by rw [← hAe]; exact Or.inr h
  have hS : va_S A st.heap st.heap [] := va_S.rf
  have hl := lv_entry ([.ref s0, .int (nI m), .int (-1)]) (n := 9) (Nat.le_of_ble_eq_true rfl)
  rw [lg_entry_eq]
  generalize (lg_sl ([.ref s0, .int (nI m), .int (-1)]) ++ List.replicate (9 - (lg_sl ([.ref s0, .int (nI m), .int (-1)])).length) Slot.unset).toArray = ls at hl ⊢
  have hl : lv_has ls 9 [(0, .ref s0), (1, .int (nI m)), (2, .int (-1))] := hl
  have h1 := hk.1
  have h2 := hk.2.1
  have h3 := hk.2.2.1
  have loop : ∀ (j t : Nat) (u : Nat → Nat), j + t = m → ∀ (H : Heap) (locs : List Loc), va_P (dC, dI) classes [(s0, .inr (0, [.ref m0, .ref c0, .ref e0, .ref q1, .long (lN vr)])), (m0, .inr (1, [.long (lN p), .int (nI n), .long (lN (px_r p 2))])), (c0, .inr (2, [.ref k1, .ref k2, .ref k3, .ref k4, .ref k5, .int (nI cc), .int (nI gc), .int (nI oc)])), (k1, .inl (cI, 24, .inl (fun c => nI (kd c)))), (k2, .inl (cI, 24, .inl (fun c => nI (lf c)))), (k3, .inl (cI, 24, .inl (fun c => nI (rg c)))), (k4, .inl (cI, 16, .inl (fun c => nI (ol c)))), (k5, .inl (cL, 32, .inr (.inl (fun c => lN (u c))))), (q1, .inl (cL, 8, .inr (.inl (fun c => lN (mk c)))))] H → va_D A [(s0, .inr (0, [.ref m0, .ref c0, .ref e0, .ref q1, .long (lN vr)])), (m0, .inr (1, [.long (lN p), .int (nI n), .long (lN (px_r p 2))])), (c0, .inr (2, [.ref k1, .ref k2, .ref k3, .ref k4, .ref k5, .int (nI cc), .int (nI gc), .int (nI oc)])), (k1, .inl (cI, 24, .inl (fun c => nI (kd c)))), (k2, .inl (cI, 24, .inl (fun c => nI (lf c)))), (k3, .inl (cI, 24, .inl (fun c => nI (rg c)))), (k4, .inl (cI, 16, .inl (fun c => nI (ol c)))), (k5, .inl (cL, 32, .inr (.inl (fun c => lN (u c))))), (q1, .inl (cL, 8, .inr (.inl (fun c => lN (mk c)))))] → va_S A st.heap H locs → ∀ (ls : Array Slot), lv_has ls 9 [(0, .ref s0), (1, .int (nI m)), (2, .int (-1)), (3, .long (lN (rg_t p vr t))), (5, .long (lN (sg p (fun t => fa p vr mk cc gc oc kd lf rg ol none t) t))), (7, .int (nI t))] → W pg l en (headSpec w_S_session ({ frames := 5, cells := 0, slots := 0, locals := 113 } : Room)).room st mm ([.ref s0, .int (nI m), .int (-1)] : List Value).toArray bw me co H locs 0 0 (MQ bw (va_Ql (fun (r : Int64) (u : Nat → Nat) => r = lN (sg p (fun t => fa p vr mk cc gc oc kd lf rg ol none t) m)) (fun (u : Nat → Nat) t => wq_B (dC, dI) classes [(cI, .int), (cL, .long)] A [(s0, .inr (0, [.ref m0, .ref c0, .ref e0, .ref q1, .long (lN vr)])), (m0, .inr (1, [.long (lN p), .int (nI n), .long (lN (px_r p 2))])), (c0, .inr (2, [.ref k1, .ref k2, .ref k3, .ref k4, .ref k5, .int (nI cc), .int (nI gc), .int (nI oc)])), (k1, .inl (cI, 24, .inl (fun c => nI (kd c)))), (k2, .inl (cI, 24, .inl (fun c => nI (lf c)))), (k3, .inl (cI, 24, .inl (fun c => nI (rg c)))), (k4, .inl (cI, 16, .inl (fun c => nI (ol c)))), (k5, .inl (cL, 32, .inr (.inl (fun c => lN (u c))))), (q1, .inl (cL, 8, .inr (.inl (fun c => lN (mk c)))))] t) A) ([.ref s0, .int (nI m), .int (-1)] : List Value).toArray st 0 0 A) (F0 mm 21 ls []) := by
    intro j
    induction j with
    | zero =>
      intro t u hj H locs hP hD hS ls hl
      refine lv_iload hx hb d_S_session_21 (lv_at hl 5 rfl) ?_
      refine lv_iload_n hx hb d_S_session_23 rfl (lv_at hl 1 rfl) ?_
      refine lv_icmp_ge (tgt := 79) hx hb d_S_session_24 (by decide) (fun hc => ?_) (fun hc => ?_)
      · have hi : t = m := by omega
        have e9 : (lN (sg p (fun t => fa p vr mk cc gc oc kd lf rg ol none t) t)) = (lN (sg p (fun t => fa p vr mk cc gc oc kd lf rg ol none t) m)) := by rw [hi]
        have hl : lv_has ls 9 [(0, .ref s0), (1, .int (nI m)), (2, .int (-1)), (3, .long (lN (rg_t p vr t))), (5, .long (lN (sg p (fun t => fa p vr mk cc gc oc kd lf rg ol none t) m))), (7, .int (nI t))] := by rw [← e9]; exact hl
        refine lv_lload hx hb d_S_session_79 (lv_at hl 4 rfl) ?_
        have hP := hP.sub (ws' := [(s0, .inr (0, [.ref m0, .ref c0, .ref e0, .ref q1, .long (lN vr)])), (m0, .inr (1, [.long (lN p), .int (nI n), .long (lN (px_r p 2))])), (c0, .inr (2, [.ref k1, .ref k2, .ref k3, .ref k4, .ref k5, .int (nI cc), .int (nI gc), .int (nI oc)])), (k1, .inl (cI, 24, .inl (fun c => nI (kd c)))), (k2, .inl (cI, 24, .inl (fun c => nI (lf c)))), (k3, .inl (cI, 24, .inl (fun c => nI (rg c)))), (k4, .inl (cI, 16, .inl (fun c => nI (ol c)))), (k5, .inl (cL, 32, .inr (.inl (fun c => lN (u c))))), (q1, .inl (cL, 8, .inr (.inl (fun c => lN (mk c)))))]) [0, 1, 2, 3, 4, 5, 6, 7, 8] rfl
        have hD := hD.sub (ws' := [(s0, .inr (0, [.ref m0, .ref c0, .ref e0, .ref q1, .long (lN vr)])), (m0, .inr (1, [.long (lN p), .int (nI n), .long (lN (px_r p 2))])), (c0, .inr (2, [.ref k1, .ref k2, .ref k3, .ref k4, .ref k5, .int (nI cc), .int (nI gc), .int (nI oc)])), (k1, .inl (cI, 24, .inl (fun c => nI (kd c)))), (k2, .inl (cI, 24, .inl (fun c => nI (lf c)))), (k3, .inl (cI, 24, .inl (fun c => nI (rg c)))), (k4, .inl (cI, 16, .inl (fun c => nI (ol c)))), (k5, .inl (cL, 32, .inr (.inl (fun c => lN (u c))))), (q1, .inl (cL, 8, .inr (.inl (fun c => lN (mk c)))))]) [0, 1, 2, 3, 4, 5, 6, 7, 8] (by decide) rfl
        exact W.lret (v := lN (sg p (fun t => fa p vr mk cc gc oc kd lf rg ol none t) m)) hx hb hr (fun t9 ht hW => ⟨⟨lN (sg p (fun t => fa p vr mk cc gc oc kd lf rg ol none t) m), u, rfl, rfl, by rw [ht]; exact hP, va_K.moved hW.alike hK, hD⟩, hS.F ht⟩) hS.2.2 d_S_session_81
      · exact absurd ((nI_leI (by omega) (by omega)).mpr (by omega)) hc
    | succ j ih =>
      intro t u hj H locs hP hD hS ls hl
      have hrl := rg_lt hm hvr t
      have hrl2 := res_lt hm hrl
      have hpl := pt_lt mk (rg_t p vr t) cc
      have hp8 : 2 ^ cc ≤ 2 ^ 8 := Nat.pow_le_pow_right (by decide) h1
      have hal := ci_a_lt ol (ci_t cc kd lf rg (pt_n mk (rg_t p vr t) cc) none (cc + gc)) oc
      have ho16 : 2 ^ oc ≤ 2 ^ 16 := Nat.pow_le_pow_right (by decide) h3
      have hsl := sg_lt hm (fun t => fa p vr mk cc gc oc kd lf rg ol none t) t
      refine lv_iload hx hb d_S_session_21 (lv_at hl 5 rfl) ?_
      refine lv_iload_n hx hb d_S_session_23 rfl (lv_at hl 1 rfl) ?_
      refine lv_icmp_ge (tgt := 79) hx hb d_S_session_24 (by decide) (fun hc => ?_) (fun hc => ?_)
      · exact absurd ((nI_leI (by omega) (by omega)).mp hc) (by omega)
      · refine lv_aload_n hx hb d_S_session_27 rfl (lv_at hl 0 rfl) ?_
        refine va_get (D := (dC, dI)) (ci := 0) (v := .ref c0) (C := R_S) (T := F_S) (N := 5) hx hb hts in_S hown hK hP 0 rfl rfl 1 (by decide) (hts _ kw_95) (fun _ h9 => h9) rfl d_S_session_28 ?_
        refine lv_aload_n hx hb d_S_session_31 rfl (lv_at hl 0 rfl) ?_
        refine lv_lload_n hx hb d_S_session_32 rfl (lv_at hl 3 rfl) ?_
        refine vp_callSi (va_Run.run (va_runV (As := [.long (lN (rg_t p vr t))]) (rest := [.ref c0]) ⟨hx, hb, hml, hown, hts⟩ (c_S_patternOf l dC dI cI cL s0 m0 c0 e0 q1 vr k1 k2 k3 k4 k5 cc gc oc mk hmk h1 (rg_t p vr t) (by omega)) (cwV 1 hts (gi_V kw_193 kw_195 ks_S_patternOf kw_1 gi_S_patternOf) rfl rfl rfl ⟨rfl, by decide, by decide, by decide⟩ ⟨Nat.le_of_ble_eq_true rfl, Nat.le_of_ble_eq_true rfl⟩) (wq_preVR hP hK hN [0, 2, 8] rfl (q0 := 0) (ci := 0) rfl rfl rfl) rfl rfl hl.1 rfl (lv_room (Nat.le_of_ble_eq_true rfl)) d_S_session_33 ⟨Nat.le_of_ble_eq_true rfl, Nat.le_of_ble_eq_true rfl⟩)) (fun r hq => ?_)
        subst hq
        refine lv_iload_n hx hb d_S_session_36 rfl (lv_at hl 2 rfl) ?_
        refine wq_i (wr := [(s0, .inr (0, [.ref m0, .ref c0, .ref e0, .ref q1, .long (lN vr)])), (m0, .inr (1, [.long (lN p), .int (nI n), .long (lN (px_r p 2))])), (q1, .inl (cL, 8, .inr (.inl (fun c => lN (mk c)))))]) (va_runVN (As := [.int (nI (pt_n mk (rg_t p vr t) cc)), .int (-1)]) (rest := []) ⟨hx, hb, hml, hown, hts⟩ (c_C_answerToN l dC dI cI cL H.size c0 k1 k2 k3 k4 k5 cc gc oc kd lf rg ol u hk (pt_n mk (rg_t p vr t) cc) (by omega)) ⟨va_cnB 2 hts gi_C_answerTo rfl rfl rfl (hN _ kw_429) (hts _ kw_3) ⟨by decide, by decide, by decide⟩ ⟨Nat.le_of_ble_eq_true rfl, Nat.le_of_ble_eq_true rfl⟩, hts _ kw_431, hts _ ks_C_answerTo⟩ (wq_preVW hP hD hK hN [2, 3, 4, 5, 6, 7] rfl rfl (q0 := 2) (ci := 2) rfl rfl rfl) rfl rfl hl.1 rfl (lv_room (Nat.le_of_ble_eq_true rfl)) d_S_session_37 ⟨Nat.le_of_ble_eq_true rfl, Nat.le_of_ble_eq_true rfl⟩) hP hD hS hA [2, 3, 4, 5, 6, 7] [0, 1, 8] rfl rfl rfl (by decide) (fun r2 u2 H locs hq2 hP hD hS hz => ?_)
        have hP : va_P (dC, dI) classes [(s0, .inr (0, [.ref m0, .ref c0, .ref e0, .ref q1, .long (lN vr)])), (m0, .inr (1, [.long (lN p), .int (nI n), .long (lN (px_r p 2))])), (q1, .inl (cL, 8, .inr (.inl (fun c => lN (mk c))))), (c0, .inr (2, [.ref k1, .ref k2, .ref k3, .ref k4, .ref k5, .int (nI cc), .int (nI gc), .int (nI oc)])), (k1, .inl (cI, 24, .inl (fun c => nI (kd c)))), (k2, .inl (cI, 24, .inl (fun c => nI (lf c)))), (k3, .inl (cI, 24, .inl (fun c => nI (rg c)))), (k4, .inl (cI, 16, .inl (fun c => nI (ol c)))), (k5, .inl (cL, 32, .inr (.inl (fun c => lN (u2 c)))))] H := hP
        have hD : va_D A [(s0, .inr (0, [.ref m0, .ref c0, .ref e0, .ref q1, .long (lN vr)])), (m0, .inr (1, [.long (lN p), .int (nI n), .long (lN (px_r p 2))])), (q1, .inl (cL, 8, .inr (.inl (fun c => lN (mk c))))), (c0, .inr (2, [.ref k1, .ref k2, .ref k3, .ref k4, .ref k5, .int (nI cc), .int (nI gc), .int (nI oc)])), (k1, .inl (cI, 24, .inl (fun c => nI (kd c)))), (k2, .inl (cI, 24, .inl (fun c => nI (lf c)))), (k3, .inl (cI, 24, .inl (fun c => nI (rg c)))), (k4, .inl (cI, 16, .inl (fun c => nI (ol c)))), (k5, .inl (cL, 32, .inr (.inl (fun c => lN (u2 c)))))] := hD
        have hq2 : r2 = nI (fa p vr mk cc gc oc kd lf rg ol none t) := hq2
        subst hq2
        refine lv_istore (lv' := [(8, .int (nI (fa p vr mk cc gc oc kd lf rg ol none t))), (0, .ref s0), (1, .int (nI m)), (2, .int (-1)), (3, .long (lN (rg_t p vr t))), (5, .long (lN (sg p (fun t => fa p vr mk cc gc oc kd lf rg ol none t) t))), (7, .int (nI t))]) hx hb d_S_session_40 hl (by decide) rfl (fun ls hl => ?_)
        refine lv_aload_n hx hb d_S_session_42 rfl (lv_at hl 1 rfl) ?_
        refine va_get (D := (dC, dI)) (ci := 0) (v := .ref m0) (C := R_S) (T := F_S) (N := 5) hx hb hts in_S hown hK hP 0 rfl rfl 0 (by decide) (hts _ kw_94) (fun _ h9 => h9) rfl d_S_session_43 ?_
        refine lv_lload hx hb d_S_session_46 (lv_at hl 5 rfl) ?_
        refine vp_callSl (va_Run.run (va_runVN (As := [.long (lN (sg p (fun t => fa p vr mk cc gc oc kd lf rg ol none t) t))]) (rest := []) ⟨hx, hb, hml, hown, hts⟩ (c_M_stepped l dC dI cI cL m0 p n _ hm hsl) ⟨va_cnB 1 hts gi_M_stepped rfl rfl rfl (hN _ kw_464) (hts _ kw_2) ⟨by decide, by decide, by decide⟩ ⟨Nat.le_of_ble_eq_true rfl, Nat.le_of_ble_eq_true rfl⟩, hts _ kw_145, hts _ ks_M_stepped⟩ (wq_preVR hP hK hN [1] rfl (q0 := 1) (ci := 1) rfl rfl rfl) rfl rfl hl.1 rfl (lv_room (Nat.le_of_ble_eq_true rfl)) d_S_session_48 ⟨Nat.le_of_ble_eq_true rfl, Nat.le_of_ble_eq_true rfl⟩)) (fun r3 hq3 => ?_)
        subst hq3
        refine lv_aload_n hx hb d_S_session_51 rfl (lv_at hl 1 rfl) ?_
        refine va_get (D := (dC, dI)) (ci := 0) (v := .ref m0) (C := R_S) (T := F_S) (N := 5) hx hb hts in_S hown hK hP 0 rfl rfl 0 (by decide) (hts _ kw_94) (fun _ h9 => h9) rfl d_S_session_52 ?_
        refine lv_iload hx hb d_S_session_55 (lv_at hl 0 rfl) ?_
        refine lv_i2l (v := lN (fa p vr mk cc gc oc kd lf rg ol none t)) hx hb d_S_session_57 (nI_l (show fa p vr mk cc gc oc kd lf rg ol none t < 2 ^ 31 from by show ci_a _ _ _ < _; omega)) ?_
        refine vp_callSl (va_Run.run (va_runVN (As := [.long (lN (fa p vr mk cc gc oc kd lf rg ol none t))]) (rest := [.long (lN (px_r p (2 * sg p (fun t => fa p vr mk cc gc oc kd lf rg ol none t) t)))]) ⟨hx, hb, hml, hown, hts⟩ (c_M_reduced l dC dI cI cL m0 p n (fa p vr mk cc gc oc kd lf rg ol none t) hm (show fa p vr mk cc gc oc kd lf rg ol none t < 2 ^ 64 from by show ci_a _ _ _ < _; omega)) ⟨va_cnB 1 hts gi_M_reduced rfl rfl rfl (hN _ kw_114) (hts _ kw_2) ⟨by decide, by decide, by decide⟩ ⟨Nat.le_of_ble_eq_true rfl, Nat.le_of_ble_eq_true rfl⟩, hts _ kw_116, hts _ ks_M_reduced⟩ (wq_preVR hP hK hN [1] rfl (q0 := 1) (ci := 1) rfl rfl rfl) rfl rfl hl.1 rfl (lv_room (Nat.le_of_ble_eq_true rfl)) d_S_session_58 ⟨Nat.le_of_ble_eq_true rfl, Nat.le_of_ble_eq_true rfl⟩)) (fun r4 hq4 => ?_)
        subst hq4
        refine lv_lxor hx hb d_S_session_61 ?_
        refine lv_topl (nm_r (show _ = lN (sg p (fun t => fa p vr mk cc gc oc kd lf rg ol none t) (t + 1)) from lN_xor _ _) ?_)
        refine lv_lstore (lv' := [(5, .long (lN (sg p (fun t => fa p vr mk cc gc oc kd lf rg ol none t) (t + 1)))), (8, .int (nI (fa p vr mk cc gc oc kd lf rg ol none t))), (0, .ref s0), (1, .int (nI m)), (2, .int (-1)), (3, .long (lN (rg_t p vr t))), (7, .int (nI t))]) hx hb d_S_session_62 hl (by decide) rfl (fun ls hl => ?_)
        refine lv_aload_n hx hb d_S_session_64 rfl (lv_at hl 2 rfl) ?_
        refine va_get (D := (dC, dI)) (ci := 0) (v := .ref m0) (C := R_S) (T := F_S) (N := 5) hx hb hts in_S hown hK hP 0 rfl rfl 0 (by decide) (hts _ kw_94) (fun _ h9 => h9) rfl d_S_session_65 ?_
        refine lv_lload_n hx hb d_S_session_68 rfl (lv_at hl 5 rfl) ?_
        refine vp_callSl (va_Run.run (va_runVN (As := [.long (lN (rg_t p vr t))]) (rest := []) ⟨hx, hb, hml, hown, hts⟩ (c_M_stepped l dC dI cI cL m0 p n _ hm hrl) ⟨va_cnB 1 hts gi_M_stepped rfl rfl rfl (hN _ kw_464) (hts _ kw_2) ⟨by decide, by decide, by decide⟩ ⟨Nat.le_of_ble_eq_true rfl, Nat.le_of_ble_eq_true rfl⟩, hts _ kw_145, hts _ ks_M_stepped⟩ (wq_preVR hP hK hN [1] rfl (q0 := 1) (ci := 1) rfl rfl rfl) rfl rfl hl.1 rfl (lv_room (Nat.le_of_ble_eq_true rfl)) d_S_session_69 ⟨Nat.le_of_ble_eq_true rfl, Nat.le_of_ble_eq_true rfl⟩)) (fun r5 hq5 => ?_)
        subst hq5
        refine lv_lstore_n (lv' := [(3, .long (lN (rg_t p vr (t + 1)))), (5, .long (lN (sg p (fun t => fa p vr mk cc gc oc kd lf rg ol none t) (t + 1)))), (8, .int (nI (fa p vr mk cc gc oc kd lf rg ol none t))), (0, .ref s0), (1, .int (nI m)), (2, .int (-1)), (7, .int (nI t))]) hx hb d_S_session_72 rfl hl (by decide) rfl (fun ls hl => ?_)
        refine lv_iinc (v := nI (t + 1)) (lv' := [(7, .int (nI (t + 1))), (3, .long (lN (rg_t p vr (t + 1)))), (5, .long (lN (sg p (fun t => fa p vr mk cc gc oc kd lf rg ol none t) (t + 1)))), (8, .int (nI (fa p vr mk cc gc oc kd lf rg ol none t))), (0, .ref s0), (1, .int (nI m)), (2, .int (-1))]) hx hb d_S_session_73 hl (k := 6) rfl (nI_1 t) (by decide) rfl (fun ls hl => ?_)
        refine lv_goto (tgt := 21) hx hb d_S_session_76 (by decide) ?_
        have hl := lv_sub (l' := [(0, .ref s0), (1, .int (nI m)), (2, .int (-1)), (3, .long (lN (rg_t p vr (t + 1)))), (5, .long (lN (sg p (fun t => fa p vr mk cc gc oc kd lf rg ol none t) (t + 1)))), (7, .int (nI (t + 1)))]) hl [4, 5, 6, 1, 2, 0] rfl
        have hP := hP.sub (ws' := [(s0, .inr (0, [.ref m0, .ref c0, .ref e0, .ref q1, .long (lN vr)])), (m0, .inr (1, [.long (lN p), .int (nI n), .long (lN (px_r p 2))])), (c0, .inr (2, [.ref k1, .ref k2, .ref k3, .ref k4, .ref k5, .int (nI cc), .int (nI gc), .int (nI oc)])), (k1, .inl (cI, 24, .inl (fun c => nI (kd c)))), (k2, .inl (cI, 24, .inl (fun c => nI (lf c)))), (k3, .inl (cI, 24, .inl (fun c => nI (rg c)))), (k4, .inl (cI, 16, .inl (fun c => nI (ol c)))), (k5, .inl (cL, 32, .inr (.inl (fun c => lN (u2 c))))), (q1, .inl (cL, 8, .inr (.inl (fun c => lN (mk c)))))]) [0, 1, 3, 4, 5, 6, 7, 8, 2] rfl
        have hD := hD.sub (ws' := [(s0, .inr (0, [.ref m0, .ref c0, .ref e0, .ref q1, .long (lN vr)])), (m0, .inr (1, [.long (lN p), .int (nI n), .long (lN (px_r p 2))])), (c0, .inr (2, [.ref k1, .ref k2, .ref k3, .ref k4, .ref k5, .int (nI cc), .int (nI gc), .int (nI oc)])), (k1, .inl (cI, 24, .inl (fun c => nI (kd c)))), (k2, .inl (cI, 24, .inl (fun c => nI (lf c)))), (k3, .inl (cI, 24, .inl (fun c => nI (rg c)))), (k4, .inl (cI, 16, .inl (fun c => nI (ol c)))), (k5, .inl (cL, 32, .inr (.inl (fun c => lN (u2 c))))), (q1, .inl (cL, 8, .inr (.inl (fun c => lN (mk c)))))]) [0, 1, 3, 4, 5, 6, 7, 8, 2] (by decide) rfl
        exact ih (t + 1) u2 (by omega) H locs hP hD hS ls hl
  refine lv_aload_n hx hb d_S_session_0 rfl (lv_at hl 0 rfl) ?_
  refine lv_iload_n hx hb d_S_session_1 rfl (lv_at hl 2 rfl) ?_
  refine va_csv (va_Run.run (va_runV (As := [.int (-1)]) (rest := []) ⟨hx, hb, hml, hown, hts⟩ (c_S_requireFaultOrNoneN l dC dI cI cL s0 m0 c0 e0 q1 vr k1 k2 k3 k4 k5 cc gc oc) (cwV 1 hts (gi_V kw_416 kw_418 ks_S_requireFaultOrNone kw_1 gi_S_requireFaultOrNone) rfl rfl rfl ⟨rfl, by decide, by decide, by decide⟩ ⟨Nat.le_of_ble_eq_true rfl, Nat.le_of_ble_eq_true rfl⟩) (wq_preVR hP hK hN [0, 2] rfl (q0 := 0) (ci := 0) rfl rfl rfl) rfl rfl hl.1 rfl (lv_room (Nat.le_of_ble_eq_true rfl)) d_S_session_2 ⟨Nat.le_of_ble_eq_true rfl, Nat.le_of_ble_eq_true rfl⟩)) (fun q1_ => ?_)
  refine lv_aload_n hx hb d_S_session_5 rfl (lv_at hl 0 rfl) ?_
  refine lv_iload_n hx hb d_S_session_6 rfl (lv_at hl 1 rfl) ?_
  refine va_csv (va_Run.run (va_runV (As := [.int (nI m)]) (rest := []) ⟨hx, hb, hml, hown, hts⟩ (c_S_requirePatterns l dC dI cI cL s0 m0 c0 e0 q1 vr m hmm) (cwV 1 hts (gi_V kw_459 kw_461 ks_S_requirePatterns kw_1 gi_S_requirePatterns) rfl rfl rfl ⟨rfl, by decide, by decide, by decide⟩ ⟨Nat.le_of_ble_eq_true rfl, Nat.le_of_ble_eq_true rfl⟩) (wq_preVR hP hK hN [0] rfl (q0 := 0) (ci := 0) rfl rfl rfl) rfl rfl hl.1 rfl (lv_room (Nat.le_of_ble_eq_true rfl)) d_S_session_7 ⟨Nat.le_of_ble_eq_true rfl, Nat.le_of_ble_eq_true rfl⟩)) (fun q2_ => ?_)
  refine lv_aload_n hx hb d_S_session_10 rfl (lv_at hl 0 rfl) ?_
  refine va_get (D := (dC, dI)) (ci := 0) (v := .long (lN vr)) (C := R_S) (T := F_S) (N := 5) hx hb hts in_S hown hK hP 0 rfl rfl 4 (by decide) (hts _ kw_98) (fun _ h9 => h9) rfl d_S_session_11 ?_
  refine lv_lstore_n (lv' := [(3, .long (lN vr)), (0, .ref s0), (1, .int (nI m)), (2, .int (-1))]) hx hb d_S_session_14 rfl hl (by decide) rfl (fun ls hl => ?_)
  refine lv_lconst (v := lN 0) hx hb d_S_session_15 (by decide) ?_
  refine lv_lstore (lv' := [(5, .long (lN 0)), (3, .long (lN vr)), (0, .ref s0), (1, .int (nI m)), (2, .int (-1))]) hx hb d_S_session_16 hl (by decide) rfl (fun ls hl => ?_)
  refine lv_iconst (v := nI 0) hx hb d_S_session_18 (by decide) ?_
  refine lv_istore (lv' := [(7, .int (nI 0)), (5, .long (lN 0)), (3, .long (lN vr)), (0, .ref s0), (1, .int (nI m)), (2, .int (-1))]) hx hb d_S_session_19 hl (by decide) rfl (fun ls hl => ?_)
  have hl := lv_sub (l' := [(0, .ref s0), (1, .int (nI m)), (2, .int (-1)), (3, .long (lN vr)), (5, .long (lN 0)), (7, .int (nI 0))]) hl [3, 4, 5, 2, 1, 0] rfl
  exact loop m 0 vv rfl _ _ hP hD hS ls hl
set_option maxHeartbeats 4000000 in
set_option maxRecDepth 100000 in
theorem c_S_sessionF (l : Launch) (dC : Nat → ClassId) (dI : Nat → Nat → Nat) (cI cL : ClassId) (sz : Nat) (s0 m0 c0 e0 q1 : Nat) (vr : Nat) (p n : Nat) (hm : md p n) (k1 k2 k3 k4 k5 : Nat) (cc gc oc : Nat) (kd lf rg ol : Nat → Nat) (hk : ck cc gc oc kd lf rg ol) (vv : Nat → Nat) (mk : Nat → Nat) (hmk : ∀ c, c < cc → mk c < 2 ^ 64) (hvr : vr < 2 ^ n) (m : Nat) (hmm : m ≤ 256) (ff : Nat) (hff : ff < 2 * (cc + gc)) : Met l y_S_session w_S_session ({ frames := 5, cells := 0, slots := 0, locals := 113 } : Room) (va_Pc [.ref s0, .int (nI m), .int (nI ff)] (wq_W (dC, dI) classes [(s0, .inr (0, [.ref m0, .ref c0, .ref e0, .ref q1, .long (lN vr)])), (m0, .inr (1, [.long (lN p), .int (nI n), .long (lN (px_r p 2))])), (c0, .inr (2, [.ref k1, .ref k2, .ref k3, .ref k4, .ref k5, .int (nI cc), .int (nI gc), .int (nI oc)])), (k1, .inl (cI, 24, .inl (fun c => nI (kd c)))), (k2, .inl (cI, 24, .inl (fun c => nI (lf c)))), (k3, .inl (cI, 24, .inl (fun c => nI (rg c)))), (k4, .inl (cI, 16, .inl (fun c => nI (ol c)))), (k5, .inl (cL, 32, .inr (.inl (fun c => lN (vv c))))), (q1, .inl (cL, 8, .inr (.inl (fun c => lN (mk c)))))] [(cI, .int), (cL, .long)] sz)) (va_Ql (fun (r : Int64) (u : Nat → Nat) => r = lN (sg p (fun t => fa p vr mk cc gc oc kd lf rg ol (some ff) t) m)) (fun (u : Nat → Nat) t => wq_B (dC, dI) classes [(cI, .int), (cL, .long)] (va_A [(s0, .inr (0, [.ref m0, .ref c0, .ref e0, .ref q1, .long (lN vr)])), (m0, .inr (1, [.long (lN p), .int (nI n), .long (lN (px_r p 2))])), (c0, .inr (2, [.ref k1, .ref k2, .ref k3, .ref k4, .ref k5, .int (nI cc), .int (nI gc), .int (nI oc)])), (k1, .inl (cI, 24, .inl (fun c => nI (kd c)))), (k2, .inl (cI, 24, .inl (fun c => nI (lf c)))), (k3, .inl (cI, 24, .inl (fun c => nI (rg c)))), (k4, .inl (cI, 16, .inl (fun c => nI (ol c)))), (k5, .inl (cL, 32, .inr (.inl (fun c => lN (vv c))))), (q1, .inl (cL, 8, .inr (.inl (fun c => lN (mk c)))))] sz) [(s0, .inr (0, [.ref m0, .ref c0, .ref e0, .ref q1, .long (lN vr)])), (m0, .inr (1, [.long (lN p), .int (nI n), .long (lN (px_r p 2))])), (c0, .inr (2, [.ref k1, .ref k2, .ref k3, .ref k4, .ref k5, .int (nI cc), .int (nI gc), .int (nI oc)])), (k1, .inl (cI, 24, .inl (fun c => nI (kd c)))), (k2, .inl (cI, 24, .inl (fun c => nI (lf c)))), (k3, .inl (cI, 24, .inl (fun c => nI (rg c)))), (k4, .inl (cI, 16, .inl (fun c => nI (ol c)))), (k5, .inl (cL, 32, .inr (.inl (fun c => lN (u c))))), (q1, .inl (cL, 8, .inr (.inl (fun c => lN (mk c)))))] t) (va_A [(s0, .inr (0, [.ref m0, .ref c0, .ref e0, .ref q1, .long (lN vr)])), (m0, .inr (1, [.long (lN p), .int (nI n), .long (lN (px_r p 2))])), (c0, .inr (2, [.ref k1, .ref k2, .ref k3, .ref k4, .ref k5, .int (nI cc), .int (nI gc), .int (nI oc)])), (k1, .inl (cI, 24, .inl (fun c => nI (kd c)))), (k2, .inl (cI, 24, .inl (fun c => nI (lf c)))), (k3, .inl (cI, 24, .inl (fun c => nI (rg c)))), (k4, .inl (cI, 16, .inl (fun c => nI (ol c)))), (k5, .inl (cL, 32, .inr (.inl (fun c => lN (vv c))))), (q1, .inl (cL, 8, .inr (.inl (fun c => lN (mk c)))))] sz)) 0 0 (va_A [(s0, .inr (0, [.ref m0, .ref c0, .ref e0, .ref q1, .long (lN vr)])), (m0, .inr (1, [.long (lN p), .int (nI n), .long (lN (px_r p 2))])), (c0, .inr (2, [.ref k1, .ref k2, .ref k3, .ref k4, .ref k5, .int (nI cc), .int (nI gc), .int (nI oc)])), (k1, .inl (cI, 24, .inl (fun c => nI (kd c)))), (k2, .inl (cI, 24, .inl (fun c => nI (lf c)))), (k3, .inl (cI, 24, .inl (fun c => nI (rg c)))), (k4, .inl (cI, 16, .inl (fun c => nI (ol c)))), (k5, .inl (cL, 32, .inr (.inl (fun c => lN (vv c))))), (q1, .inl (cL, 8, .inr (.inl (fun c => lN (mk c)))))] sz) := by
  refine Met.ofW (cc := b_S_session) (maxL := 9) (ret := (Option.some Jvm.ClassFile.FieldType.long)) (by decide) rfl ?_
  intro pg en st mm ar bw me co s₁ B hml hv
  obtain ⟨rfl, hsz, hP, hK, hD0, hN⟩ := hv
  have hx := B.exec
  have hb := B.bytes
  have hr := B.returns
  have hlocks := B.notSynchronized
  have hts0 := atoms_spec (ws := w_S_session) B.pre
  have hts : ∀ w ∈ gw, w.before _ st = true := fun w h => hts0 w (List.mem_cons_of_mem _ h)
  have hown : st.vm.findClass R_S = some mm.cls := findClass_of_methodNamed B.named
  subst hsz
  have hD := hD0.self (sz := st.heap.size)
  generalize hAe : va_A [(s0, .inr (0, [.ref m0, .ref c0, .ref e0, .ref q1, .long (lN vr)])), (m0, .inr (1, [.long (lN p), .int (nI n), .long (lN (px_r p 2))])), (c0, .inr (2, [.ref k1, .ref k2, .ref k3, .ref k4, .ref k5, .int (nI cc), .int (nI gc), .int (nI oc)])), (k1, .inl (cI, 24, .inl (fun c => nI (kd c)))), (k2, .inl (cI, 24, .inl (fun c => nI (lf c)))), (k3, .inl (cI, 24, .inl (fun c => nI (rg c)))), (k4, .inl (cI, 16, .inl (fun c => nI (ol c)))), (k5, .inl (cL, 32, .inr (.inl (fun c => lN (vv c))))), (q1, .inl (cL, 8, .inr (.inl (fun c => lN (mk c)))))] st.heap.size = A at hD ⊢
  have hA : ∀ q : Nat, st.heap.size ≤ q → A q := fun q h => by rw [← hAe]; exact Or.inr h
  have hS : va_S A st.heap st.heap [] := va_S.rf
  have hl := lv_entry ([.ref s0, .int (nI m), .int (nI ff)]) (n := 9) (Nat.le_of_ble_eq_true rfl)
  rw [lg_entry_eq]
  generalize (lg_sl ([.ref s0, .int (nI m), .int (nI ff)]) ++ List.replicate (9 - (lg_sl ([.ref s0, .int (nI m), .int (nI ff)])).length) Slot.unset).toArray = ls at hl ⊢
  have hl : lv_has ls 9 [(0, .ref s0), (1, .int (nI m)), (2, .int (nI ff))] := hl
  have h1 := hk.1
  have h2 := hk.2.1
  have h3 := hk.2.2.1
  have loop : ∀ (j t : Nat) (u : Nat → Nat), j + t = m → ∀ (H : Heap) (locs : List Loc), va_P (dC, dI) classes [(s0, .inr (0, [.ref m0, .ref c0, .ref e0, .ref q1, .long (lN vr)])), (m0, .inr (1, [.long (lN p), .int (nI n), .long (lN (px_r p 2))])), (c0, .inr (2, [.ref k1, .ref k2, .ref k3, .ref k4, .ref k5, .int (nI cc), .int (nI gc), .int (nI oc)])), (k1, .inl (cI, 24, .inl (fun c => nI (kd c)))), (k2, .inl (cI, 24, .inl (fun c => nI (lf c)))), (k3, .inl (cI, 24, .inl (fun c => nI (rg c)))), (k4, .inl (cI, 16, .inl (fun c => nI (ol c)))), (k5, .inl (cL, 32, .inr (.inl (fun c => lN (u c))))), (q1, .inl (cL, 8, .inr (.inl (fun c => lN (mk c)))))] H → va_D A [(s0, .inr (0, [.ref m0, .ref c0, .ref e0, .ref q1, .long (lN vr)])), (m0, .inr (1, [.long (lN p), .int (nI n), .long (lN (px_r p 2))])), (c0, .inr (2, [.ref k1, .ref k2, .ref k3, .ref k4, .ref k5, .int (nI cc), .int (nI gc), .int (nI oc)])), (k1, .inl (cI, 24, .inl (fun c => nI (kd c)))), (k2, .inl (cI, 24, .inl (fun c => nI (lf c)))), (k3, .inl (cI, 24, .inl (fun c => nI (rg c)))), (k4, .inl (cI, 16, .inl (fun c => nI (ol c)))), (k5, .inl (cL, 32, .inr (.inl (fun c => lN (u c))))), (q1, .inl (cL, 8, .inr (.inl (fun c => lN (mk c)))))] → va_S A st.heap H locs → ∀ (ls : Array Slot), lv_has ls 9 [(0, .ref s0), (1, .int (nI m)), (2, .int (nI ff)), (3, .long (lN (rg_t p vr t))), (5, .long (lN (sg p (fun t => fa p vr mk cc gc oc kd lf rg ol (some ff) t) t))), (7, .int (nI t))] → W pg l en (headSpec w_S_session ({ frames := 5, cells := 0, slots := 0, locals := 113 } : Room)).room st mm ([.ref s0, .int (nI m), .int (nI ff)] : List Value).toArray bw me co H locs 0 0 (MQ bw (va_Ql (fun (r : Int64) (u : Nat → Nat) => r = lN (sg p (fun t => fa p vr mk cc gc oc kd lf rg ol (some ff) t) m)) (fun (u : Nat → Nat) t => wq_B (dC, dI) classes [(cI, .int), (cL, .long)] A [(s0, .inr (0, [.ref m0, .ref c0, .ref e0, .ref q1, .long (lN vr)])), (m0, .inr (1, [.long (lN p), .int (nI n), .long (lN (px_r p 2))])), (c0, .inr (2, [.ref k1, .ref k2, .ref k3, .ref k4, .ref k5, .int (nI cc), .int (nI gc), .int (nI oc)])), (k1, .inl (cI, 24, .inl (fun c => nI (kd c)))), (k2, .inl (cI, 24, .inl (fun c => nI (lf c)))), (k3, .inl (cI, 24, .inl (fun c => nI (rg c)))), (k4, .inl (cI, 16, .inl (fun c => nI (ol c)))), (k5, .inl (cL, 32, .inr (.inl (fun c => lN (u c))))), (q1, .inl (cL, 8, .inr (.inl (fun c => lN (mk c)))))] t) A) ([.ref s0, .int (nI m), .int (nI ff)] : List Value).toArray st 0 0 A) (F0 mm 21 ls []) := by
    intro j
    induction j with
    | zero =>
      intro t u hj H locs hP hD hS ls hl
      refine lv_iload hx hb d_S_session_21 (lv_at hl 5 rfl) ?_
      refine lv_iload_n hx hb d_S_session_23 rfl (lv_at hl 1 rfl) ?_
      refine lv_icmp_ge (tgt := 79) hx hb d_S_session_24 (by decide) (fun hc => ?_) (fun hc => ?_)
      · have hi : t = m := by omega
        have e9 : (lN (sg p (fun t => fa p vr mk cc gc oc kd lf rg ol (some ff) t) t)) = (lN (sg p (fun t => fa p vr mk cc gc oc kd lf rg ol (some ff) t) m)) := by rw [hi]
        have hl : lv_has ls 9 [(0, .ref s0), (1, .int (nI m)), (2, .int (nI ff)), (3, .long (lN (rg_t p vr t))), (5, .long (lN (sg p (fun t => fa p vr mk cc gc oc kd lf rg ol (some ff) t) m))), (7, .int (nI t))] := by rw [← e9]; exact hl
        refine lv_lload hx hb d_S_session_79 (lv_at hl 4 rfl) ?_
        have hP := hP.sub (ws' := [(s0, .inr (0, [.ref m0, .ref c0, .ref e0, .ref q1, .long (lN vr)])), (m0, .inr (1, [.long (lN p), .int (nI n), .long (lN (px_r p 2))])), (c0, .inr (2, [.ref k1, .ref k2, .ref k3, .ref k4, .ref k5, .int (nI cc), .int (nI gc), .int (nI oc)])), (k1, .inl (cI, 24, .inl (fun c => nI (kd c)))), (k2, .inl (cI, 24, .inl (fun c => nI (lf c)))), (k3, .inl (cI, 24, .inl (fun c => nI (rg c)))), (k4, .inl (cI, 16, .inl (fun c => nI (ol c)))), (k5, .inl (cL, 32, .inr (.inl (fun c => lN (u c))))), (q1, .inl (cL, 8, .inr (.inl (fun c => lN (mk c)))))]) [0, 1, 2, 3, 4, 5, 6, 7, 8] rfl
        have hD := hD.sub (ws' := [(s0, .inr (0, [.ref m0, .ref c0, .ref e0, .ref q1, .long (lN vr)])), (m0, .inr (1, [.long (lN p), .int (nI n), .long (lN (px_r p 2))])), (c0, .inr (2, [.ref k1, .ref k2, .ref k3, .ref k4, .ref k5, .int (nI cc), .int (nI gc), .int (nI oc)])), (k1, .inl (cI, 24, .inl (fun c => nI (kd c)))), (k2, .inl (cI, 24, .inl (fun c => nI (lf c)))), (k3, .inl (cI, 24, .inl (fun c => nI (rg c)))), (k4, .inl (cI, 16, .inl (fun c => nI (ol c)))), (k5, .inl (cL, 32, .inr (.inl (fun c => lN (u c))))), (q1, .inl (cL, 8, .inr (.inl (fun c => lN (mk c)))))]) [0, 1, 2, 3, 4, 5, 6, 7, 8] (by decide) rfl
        exact W.lret (v := lN (sg p (fun t => fa p vr mk cc gc oc kd lf rg ol (some ff) t) m)) hx hb hr (fun t9 ht hW => ⟨⟨lN (sg p (fun t => fa p vr mk cc gc oc kd lf rg ol (some ff) t) m), u, rfl, rfl, by rw [ht]; exact hP, va_K.moved hW.alike hK, hD⟩, hS.F ht⟩) hS.2.2 d_S_session_81
      · exact absurd ((nI_leI (by omega) (by omega)).mpr (by omega)) hc
    | succ j ih =>
      intro t u hj H locs hP hD hS ls hl
      have hrl := rg_lt hm hvr t
      have hrl2 := res_lt hm hrl
      have hpl := pt_lt mk (rg_t p vr t) cc
      have hp8 : 2 ^ cc ≤ 2 ^ 8 := Nat.pow_le_pow_right (by decide) h1
      have hal := ci_a_lt ol (ci_t cc kd lf rg (pt_n mk (rg_t p vr t) cc) (some ff) (cc + gc)) oc
      have ho16 : 2 ^ oc ≤ 2 ^ 16 := Nat.pow_le_pow_right (by decide) h3
      have hsl := sg_lt hm (fun t => fa p vr mk cc gc oc kd lf rg ol (some ff) t) t
      refine lv_iload hx hb d_S_session_21 (lv_at hl 5 rfl) ?_
      refine lv_iload_n hx hb d_S_session_23 rfl (lv_at hl 1 rfl) ?_
      refine lv_icmp_ge (tgt := 79) hx hb d_S_session_24 (by decide) (fun hc => ?_) (fun hc => ?_)
      · exact absurd ((nI_leI (by omega) (by omega)).mp hc) (by omega)
      · refine lv_aload_n hx hb d_S_session_27 rfl (lv_at hl 0 rfl) ?_
        refine va_get (D := (dC, dI)) (ci := 0) (v := .ref c0) (C := R_S) (T := F_S) (N := 5) hx hb hts in_S hown hK hP 0 rfl rfl 1 (by decide) (hts _ kw_95) (fun _ h9 => h9) rfl d_S_session_28 ?_
        refine lv_aload_n hx hb d_S_session_31 rfl (lv_at hl 0 rfl) ?_
        refine lv_lload_n hx hb d_S_session_32 rfl (lv_at hl 3 rfl) ?_
        refine vp_callSi (va_Run.run (va_runV (As := [.long (lN (rg_t p vr t))]) (rest := [.ref c0]) ⟨hx, hb, hml, hown, hts⟩ (c_S_patternOf l dC dI cI cL s0 m0 c0 e0 q1 vr k1 k2 k3 k4 k5 cc gc oc mk hmk h1 (rg_t p vr t) (by omega)) (cwV 1 hts (gi_V kw_193 kw_195 ks_S_patternOf kw_1 gi_S_patternOf) rfl rfl rfl ⟨rfl, by decide, by decide, by decide⟩ ⟨Nat.le_of_ble_eq_true rfl, Nat.le_of_ble_eq_true rfl⟩) (wq_preVR hP hK hN [0, 2, 8] rfl (q0 := 0) (ci := 0) rfl rfl rfl) rfl rfl hl.1 rfl (lv_room (Nat.le_of_ble_eq_true rfl)) d_S_session_33 ⟨Nat.le_of_ble_eq_true rfl, Nat.le_of_ble_eq_true rfl⟩)) (fun r hq => ?_)
        subst hq
        refine lv_iload_n hx hb d_S_session_36 rfl (lv_at hl 2 rfl) ?_
        refine wq_i (wr := [(s0, .inr (0, [.ref m0, .ref c0, .ref e0, .ref q1, .long (lN vr)])), (m0, .inr (1, [.long (lN p), .int (nI n), .long (lN (px_r p 2))])), (q1, .inl (cL, 8, .inr (.inl (fun c => lN (mk c)))))]) (va_runVN (As := [.int (nI (pt_n mk (rg_t p vr t) cc)), .int (nI ff)]) (rest := []) ⟨hx, hb, hml, hown, hts⟩ (c_C_answerToF l dC dI cI cL H.size c0 k1 k2 k3 k4 k5 cc gc oc kd lf rg ol u hk (pt_n mk (rg_t p vr t) cc) (by omega) ff (by omega)) ⟨va_cnB 2 hts gi_C_answerTo rfl rfl rfl (hN _ kw_429) (hts _ kw_3) ⟨by decide, by decide, by decide⟩ ⟨Nat.le_of_ble_eq_true rfl, Nat.le_of_ble_eq_true rfl⟩, hts _ kw_431, hts _ ks_C_answerTo⟩ (wq_preVW hP hD hK hN [2, 3, 4, 5, 6, 7] rfl rfl (q0 := 2) (ci := 2) rfl rfl rfl) rfl rfl hl.1 rfl (lv_room (Nat.le_of_ble_eq_true rfl)) d_S_session_37 ⟨Nat.le_of_ble_eq_true rfl, Nat.le_of_ble_eq_true rfl⟩) hP hD hS hA [2, 3, 4, 5, 6, 7] [0, 1, 8] rfl rfl rfl (by decide) (fun r2 u2 H locs hq2 hP hD hS hz => ?_)
        have hP : va_P (dC, dI) classes [(s0, .inr (0, [.ref m0, .ref c0, .ref e0, .ref q1, .long (lN vr)])), (m0, .inr (1, [.long (lN p), .int (nI n), .long (lN (px_r p 2))])), (q1, .inl (cL, 8, .inr (.inl (fun c => lN (mk c))))), (c0, .inr (2, [.ref k1, .ref k2, .ref k3, .ref k4, .ref k5, .int (nI cc), .int (nI gc), .int (nI oc)])), (k1, .inl (cI, 24, .inl (fun c => nI (kd c)))), (k2, .inl (cI, 24, .inl (fun c => nI (lf c)))), (k3, .inl (cI, 24, .inl (fun c => nI (rg c)))), (k4, .inl (cI, 16, .inl (fun c => nI (ol c)))), (k5, .inl (cL, 32, .inr (.inl (fun c => lN (u2 c)))))] H := hP
        have hD : va_D A [(s0, .inr (0, [.ref m0, .ref c0, .ref e0, .ref q1, .long (lN vr)])), (m0, .inr (1, [.long (lN p), .int (nI n), .long (lN (px_r p 2))])), (q1, .inl (cL, 8, .inr (.inl (fun c => lN (mk c))))), (c0, .inr (2, [.ref k1, .ref k2, .ref k3, .ref k4, .ref k5, .int (nI cc), .int (nI gc), .int (nI oc)])), (k1, .inl (cI, 24, .inl (fun c => nI (kd c)))), (k2, .inl (cI, 24, .inl (fun c => nI (lf c)))), (k3, .inl (cI, 24, .inl (fun c => nI (rg c)))), (k4, .inl (cI, 16, .inl (fun c => nI (ol c)))), (k5, .inl (cL, 32, .inr (.inl (fun c => lN (u2 c)))))] := hD
        have hq2 : r2 = nI (fa p vr mk cc gc oc kd lf rg ol (some ff) t) := hq2
        subst hq2
        refine lv_istore (lv' := [(8, .int (nI (fa p vr mk cc gc oc kd lf rg ol (some ff) t))), (0, .ref s0), (1, .int (nI m)), (2, .int (nI ff)), (3, .long (lN (rg_t p vr t))), (5, .long (lN (sg p (fun t => fa p vr mk cc gc oc kd lf rg ol (some ff) t) t))), (7, .int (nI t))]) hx hb d_S_session_40 hl (by decide) rfl (fun ls hl => ?_)
        refine lv_aload_n hx hb d_S_session_42 rfl (lv_at hl 1 rfl) ?_
        refine va_get (D := (dC, dI)) (ci := 0) (v := .ref m0) (C := R_S) (T := F_S) (N := 5) hx hb hts in_S hown hK hP 0 rfl rfl 0 (by decide) (hts _ kw_94) (fun _ h9 => h9) rfl d_S_session_43 ?_
        refine lv_lload hx hb d_S_session_46 (lv_at hl 5 rfl) ?_
        refine vp_callSl (va_Run.run (va_runVN (As := [.long (lN (sg p (fun t => fa p vr mk cc gc oc kd lf rg ol (some ff) t) t))]) (rest := []) ⟨hx, hb, hml, hown, hts⟩ (c_M_stepped l dC dI cI cL m0 p n _ hm hsl) ⟨va_cnB 1 hts gi_M_stepped rfl rfl rfl (hN _ kw_464) (hts _ kw_2) ⟨by decide, by decide, by decide⟩ ⟨Nat.le_of_ble_eq_true rfl, Nat.le_of_ble_eq_true rfl⟩, hts _ kw_145, hts _ ks_M_stepped⟩ (wq_preVR hP hK hN [1] rfl (q0 := 1) (ci := 1) rfl rfl rfl) rfl rfl hl.1 rfl (lv_room (Nat.le_of_ble_eq_true rfl)) d_S_session_48 ⟨Nat.le_of_ble_eq_true rfl, Nat.le_of_ble_eq_true rfl⟩)) (fun r3 hq3 => ?_)
        subst hq3
        refine lv_aload_n hx hb d_S_session_51 rfl (lv_at hl 1 rfl) ?_
        refine va_get (D := (dC, dI)) (ci := 0) (v := .ref m0) (C := R_S) (T := F_S) (N := 5) hx hb hts in_S hown hK hP 0 rfl rfl 0 (by decide) (hts _ kw_94) (fun _ h9 => h9) rfl d_S_session_52 ?_
        refine lv_iload hx hb d_S_session_55 (lv_at hl 0 rfl) ?_
        refine lv_i2l (v := lN (fa p vr mk cc gc oc kd lf rg ol (some ff) t)) hx hb d_S_session_57 (nI_l (show fa p vr mk cc gc oc kd lf rg ol (some ff) t < 2 ^ 31 from by show ci_a _ _ _ < _; omega)) ?_
        refine vp_callSl (va_Run.run (va_runVN (As := [.long (lN (fa p vr mk cc gc oc kd lf rg ol (some ff) t))]) (rest := [.long (lN (px_r p (2 * sg p (fun t => fa p vr mk cc gc oc kd lf rg ol (some ff) t) t)))]) ⟨hx, hb, hml, hown, hts⟩ (c_M_reduced l dC dI cI cL m0 p n (fa p vr mk cc gc oc kd lf rg ol (some ff) t) hm (show fa p vr mk cc gc oc kd lf rg ol (some ff) t < 2 ^ 64 from by show ci_a _ _ _ < _; omega)) ⟨va_cnB 1 hts gi_M_reduced rfl rfl rfl (hN _ kw_114) (hts _ kw_2) ⟨by decide, by decide, by decide⟩ ⟨Nat.le_of_ble_eq_true rfl, Nat.le_of_ble_eq_true rfl⟩, hts _ kw_116, hts _ ks_M_reduced⟩ (wq_preVR hP hK hN [1] rfl (q0 := 1) (ci := 1) rfl rfl rfl) rfl rfl hl.1 rfl (lv_room (Nat.le_of_ble_eq_true rfl)) d_S_session_58 ⟨Nat.le_of_ble_eq_true rfl, Nat.le_of_ble_eq_true rfl⟩)) (fun r4 hq4 => ?_)
        subst hq4
        refine lv_lxor hx hb d_S_session_61 ?_
        refine lv_topl (nm_r (show _ = lN (sg p (fun t => fa p vr mk cc gc oc kd lf rg ol (some ff) t) (t + 1)) from lN_xor _ _) ?_)
        refine lv_lstore (lv' := [(5, .long (lN (sg p (fun t => fa p vr mk cc gc oc kd lf rg ol (some ff) t) (t + 1)))), (8, .int (nI (fa p vr mk cc gc oc kd lf rg ol (some ff) t))), (0, .ref s0), (1, .int (nI m)), (2, .int (nI ff)), (3, .long (lN (rg_t p vr t))), (7, .int (nI t))]) hx hb d_S_session_62 hl (by decide) rfl (fun ls hl => ?_)
        refine lv_aload_n hx hb d_S_session_64 rfl (lv_at hl 2 rfl) ?_
        refine va_get (D := (dC, dI)) (ci := 0) (v := .ref m0) (C := R_S) (T := F_S) (N := 5) hx hb hts in_S hown hK hP 0 rfl rfl 0 (by decide) (hts _ kw_94) (fun _ h9 => h9) rfl d_S_session_65 ?_
        refine lv_lload_n hx hb d_S_session_68 rfl (lv_at hl 5 rfl) ?_
        refine vp_callSl (va_Run.run (va_runVN (As := [.long (lN (rg_t p vr t))]) (rest := []) ⟨hx, hb, hml, hown, hts⟩ (c_M_stepped l dC dI cI cL m0 p n _ hm hrl) ⟨va_cnB 1 hts gi_M_stepped rfl rfl rfl (hN _ kw_464) (hts _ kw_2) ⟨by decide, by decide, by decide⟩ ⟨Nat.le_of_ble_eq_true rfl, Nat.le_of_ble_eq_true rfl⟩, hts _ kw_145, hts _ ks_M_stepped⟩ (wq_preVR hP hK hN [1] rfl (q0 := 1) (ci := 1) rfl rfl rfl) rfl rfl hl.1 rfl (lv_room (Nat.le_of_ble_eq_true rfl)) d_S_session_69 ⟨Nat.le_of_ble_eq_true rfl, Nat.le_of_ble_eq_true rfl⟩)) (fun r5 hq5 => ?_)
        subst hq5
        refine lv_lstore_n (lv' := [(3, .long (lN (rg_t p vr (t + 1)))), (5, .long (lN (sg p (fun t => fa p vr mk cc gc oc kd lf rg ol (some ff) t) (t + 1)))), (8, .int (nI (fa p vr mk cc gc oc kd lf rg ol (some ff) t))), (0, .ref s0), (1, .int (nI m)), (2, .int (nI ff)), (7, .int (nI t))]) hx hb d_S_session_72 rfl hl (by decide) rfl (fun ls hl => ?_)
        refine lv_iinc (v := nI (t + 1)) (lv' := [(7, .int (nI (t + 1))), (3, .long (lN (rg_t p vr (t + 1)))), (5, .long (lN (sg p (fun t => fa p vr mk cc gc oc kd lf rg ol (some ff) t) (t + 1)))), (8, .int (nI (fa p vr mk cc gc oc kd lf rg ol (some ff) t))), (0, .ref s0), (1, .int (nI m)), (2, .int (nI ff))]) hx hb d_S_session_73 hl (k := 6) rfl (nI_1 t) (by decide) rfl (fun ls hl => ?_)
        refine lv_goto (tgt := 21) hx hb d_S_session_76 (by decide) ?_
        have hl := lv_sub (l' := [(0, .ref s0), (1, .int (nI m)), (2, .int (nI ff)), (3, .long (lN (rg_t p vr (t + 1)))), (5, .long (lN (sg p (fun t => fa p vr mk cc gc oc kd lf rg ol (some ff) t) (t + 1)))), (7, .int (nI (t + 1)))]) hl [4, 5, 6, 1, 2, 0] rfl
        have hP := hP.sub (ws' := [(s0, .inr (0, [.ref m0, .ref c0, .ref e0, .ref q1, .long (lN vr)])), (m0, .inr (1, [.long (lN p), .int (nI n), .long (lN (px_r p 2))])), (c0, .inr (2, [.ref k1, .ref k2, .ref k3, .ref k4, .ref k5, .int (nI cc), .int (nI gc), .int (nI oc)])), (k1, .inl (cI, 24, .inl (fun c => nI (kd c)))), (k2, .inl (cI, 24, .inl (fun c => nI (lf c)))), (k3, .inl (cI, 24, .inl (fun c => nI (rg c)))), (k4, .inl (cI, 16, .inl (fun c => nI (ol c)))), (k5, .inl (cL, 32, .inr (.inl (fun c => lN (u2 c))))), (q1, .inl (cL, 8, .inr (.inl (fun c => lN (mk c)))))]) [0, 1, 3, 4, 5, 6, 7, 8, 2] rfl
        have hD := hD.sub (ws' := [(s0, .inr (0, [.ref m0, .ref c0, .ref e0, .ref q1, .long (lN vr)])), (m0, .inr (1, [.long (lN p), .int (nI n), .long (lN (px_r p 2))])), (c0, .inr (2, [.ref k1, .ref k2, .ref k3, .ref k4, .ref k5, .int (nI cc), .int (nI gc), .int (nI oc)])), (k1, .inl (cI, 24, .inl (fun c => nI (kd c)))), (k2, .inl (cI, 24, .inl (fun c => nI (lf c)))), (k3, .inl (cI, 24, .inl (fun c => nI (rg c)))), (k4, .inl (cI, 16, .inl (fun c => nI (ol c)))), (k5, .inl (cL, 32, .inr (.inl (fun c => lN (u2 c))))), (q1, .inl (cL, 8, .inr (.inl (fun c => lN (mk c)))))]) [0, 1, 3, 4, 5, 6, 7, 8, 2] (by decide) rfl
        exact ih (t + 1) u2 (by omega) H locs hP hD hS ls hl
  refine lv_aload_n hx hb d_S_session_0 rfl (lv_at hl 0 rfl) ?_
  refine lv_iload_n hx hb d_S_session_1 rfl (lv_at hl 2 rfl) ?_
  refine va_csv (va_Run.run (va_runV (As := [.int (nI ff)]) (rest := []) ⟨hx, hb, hml, hown, hts⟩ (c_S_requireFaultOrNoneF l dC dI cI cL s0 m0 c0 e0 q1 vr k1 k2 k3 k4 k5 cc gc oc ff hff (by omega)) (cwV 1 hts (gi_V kw_416 kw_418 ks_S_requireFaultOrNone kw_1 gi_S_requireFaultOrNone) rfl rfl rfl ⟨rfl, by decide, by decide, by decide⟩ ⟨Nat.le_of_ble_eq_true rfl, Nat.le_of_ble_eq_true rfl⟩) (wq_preVR hP hK hN [0, 2] rfl (q0 := 0) (ci := 0) rfl rfl rfl) rfl rfl hl.1 rfl (lv_room (Nat.le_of_ble_eq_true rfl)) d_S_session_2 ⟨Nat.le_of_ble_eq_true rfl, Nat.le_of_ble_eq_true rfl⟩)) (fun q1_ => ?_)
  refine lv_aload_n hx hb d_S_session_5 rfl (lv_at hl 0 rfl) ?_
  refine lv_iload_n hx hb d_S_session_6 rfl (lv_at hl 1 rfl) ?_
  refine va_csv (va_Run.run (va_runV (As := [.int (nI m)]) (rest := []) ⟨hx, hb, hml, hown, hts⟩ (c_S_requirePatterns l dC dI cI cL s0 m0 c0 e0 q1 vr m hmm) (cwV 1 hts (gi_V kw_459 kw_461 ks_S_requirePatterns kw_1 gi_S_requirePatterns) rfl rfl rfl ⟨rfl, by decide, by decide, by decide⟩ ⟨Nat.le_of_ble_eq_true rfl, Nat.le_of_ble_eq_true rfl⟩) (wq_preVR hP hK hN [0] rfl (q0 := 0) (ci := 0) rfl rfl rfl) rfl rfl hl.1 rfl (lv_room (Nat.le_of_ble_eq_true rfl)) d_S_session_7 ⟨Nat.le_of_ble_eq_true rfl, Nat.le_of_ble_eq_true rfl⟩)) (fun q2_ => ?_)
  refine lv_aload_n hx hb d_S_session_10 rfl (lv_at hl 0 rfl) ?_
  refine va_get (D := (dC, dI)) (ci := 0) (v := .long (lN vr)) (C := R_S) (T := F_S) (N := 5) hx hb hts in_S hown hK hP 0 rfl rfl 4 (by decide) (hts _ kw_98) (fun _ h9 => h9) rfl d_S_session_11 ?_
  refine lv_lstore_n (lv' := [(3, .long (lN vr)), (0, .ref s0), (1, .int (nI m)), (2, .int (nI ff))]) hx hb d_S_session_14 rfl hl (by decide) rfl (fun ls hl => ?_)
  refine lv_lconst (v := lN 0) hx hb d_S_session_15 (by decide) ?_
  refine lv_lstore (lv' := [(5, .long (lN 0)), (3, .long (lN vr)), (0, .ref s0), (1, .int (nI m)), (2, .int (nI ff))]) hx hb d_S_session_16 hl (by decide) rfl (fun ls hl => ?_)
  refine lv_iconst (v := nI 0) hx hb d_S_session_18 (by decide) ?_
  refine lv_istore (lv' := [(7, .int (nI 0)), (5, .long (lN 0)), (3, .long (lN vr)), (0, .ref s0), (1, .int (nI m)), (2, .int (nI ff))]) hx hb d_S_session_19 hl (by decide) rfl (fun ls hl => ?_)
  have hl := lv_sub (l' := [(0, .ref s0), (1, .int (nI m)), (2, .int (nI ff)), (3, .long (lN vr)), (5, .long (lN 0)), (7, .int (nI 0))]) hl [3, 4, 5, 2, 1, 0] rfl
  exact loop m 0 vv rfl _ _ hP hD hS ls hl
set_option maxHeartbeats 4000000 in
set_option maxRecDepth 100000 in
theorem x_S_sessionA (l : Launch) (dC : Nat → ClassId) (dI : Nat → Nat → Nat) (cI cL : ClassId) (hlt : l.stackTraces = false) (sz : Nat) (s0 m0 c0 e0 q1 : Nat) (vr : Nat) (k1 k2 k3 k4 k5 : Nat) (cc gc oc : Nat) (y1 y : Int32) (hy : y < 0 ∨ ¬ y < nI (2 * (cc + gc))) (hm1 : y ≠ -1) : vx_Met l y_S_session w_S_session ({ frames := 8, cells := 1, slots := 6, locals := 124 } : Room) (va_Pc [.ref s0, .int y1, .int y] (wq_X (dC, dI) classes [(s0, .inr (0, [.ref m0, .ref c0, .ref e0, .ref q1, .long (lN vr)])), (c0, .inr (2, [.ref k1, .ref k2, .ref k3, .ref k4, .ref k5, .int (nI cc), .int (nI gc), .int (nI oc)]))] [(cI, .int), (cL, .long)] sz)) (xq_l sz) (xq "java/lang/IndexOutOfBoundsException" sz) 1 6 (fun q => sz ≤ q) := by
  refine vx_ofW (cc := b_S_session) (maxL := 9) (ret := (Option.some Jvm.ClassFile.FieldType.long)) (by decide) rfl ?_
  intro pg en st mm ar bw me co s₁ B hml hex hv
  obtain ⟨rfl, hsz, ⟨hP, hK, hN⟩, hE, hZ⟩ := hv
  subst hsz
  have hx := B.exec
  have hb := B.bytes
  have hr := B.returns
  have hlocks := B.notSynchronized
  have hts0 := atoms_spec (ws := w_S_session) B.pre
  have hts : ∀ w ∈ gw, w.before _ st = true := fun w h => hts0 w (List.mem_cons_of_mem _ h)
  have hown : st.vm.findClass R_S = some mm.cls := findClass_of_methodNamed B.named
  have hl := lv_entry ([.ref s0, .int y1, .int y]) (n := 9) (Nat.le_of_ble_eq_true rfl)
  rw [lg_entry_eq]
  generalize (lg_sl ([.ref s0, .int y1, .int y]) ++ List.replicate (9 - (lg_sl ([.ref s0, .int y1, .int y])).length) Slot.unset).toArray = ls at hl ⊢
  have hl : lv_has ls 9 [(0, .ref s0), (1, .int y1), (2, .int y)] := hl
  refine lv_aload_n hx hb d_S_session_0 rfl (lv_at hl 0 rfl) ?_
  refine lv_iload_n hx hb d_S_session_1 rfl (lv_at hl 2 rfl) ?_
  exact xq_cv (cells := 0) (slots := 0) (mc := 1) (ms := 6) (MC := 1) (MS := 6) (vx_runV (As := [.int y]) (rest := []) ⟨hx, hb, hml, hown, hts⟩ (x_S_requireFaultOrNone l dC dI cI cL hlt st.heap.size s0 m0 c0 e0 q1 vr k1 k2 k3 k4 k5 cc gc oc y hy hm1) (cwV 1 hts (gi_V kw_416 kw_418 ks_S_requireFaultOrNone kw_1 gi_S_requireFaultOrNone) rfl rfl rfl ⟨rfl, by decide, by decide, by decide⟩ ⟨Nat.le_of_ble_eq_true rfl, Nat.le_of_ble_eq_true rfl⟩) (wq_preVX hP hK hN hE hZ [0, 1] rfl (q0 := 0) (ci := 0) rfl rfl rfl) rfl rfl hl.1 rfl (lv_room (Nat.le_of_ble_eq_true rfl)) d_S_session_2 ⟨Nat.le_of_ble_eq_true rfl, Nat.le_of_ble_eq_true rfl⟩) hex hlocks (Nat.le_of_ble_eq_true rfl) (Nat.le_of_ble_eq_true rfl)
set_option maxHeartbeats 4000000 in
set_option maxRecDepth 100000 in
theorem x_S_sessionBN (l : Launch) (dC : Nat → ClassId) (dI : Nat → Nat → Nat) (cI cL : ClassId) (hlt : l.stackTraces = false) (sz : Nat) (s0 m0 c0 e0 q1 : Nat) (vr : Nat) (k1 k2 k3 k4 k5 : Nat) (cc gc oc : Nat) (y1 : Int32) (hy : y1 < 0 ∨ ¬ y1 ≤ nI 256) : vx_Met l y_S_session w_S_session ({ frames := 7, cells := 1, slots := 6, locals := 103 } : Room) (va_Pc [.ref s0, .int y1, .int (-1)] (wq_X (dC, dI) classes [(s0, .inr (0, [.ref m0, .ref c0, .ref e0, .ref q1, .long (lN vr)])), (c0, .inr (2, [.ref k1, .ref k2, .ref k3, .ref k4, .ref k5, .int (nI cc), .int (nI gc), .int (nI oc)]))] [(cI, .int), (cL, .long)] sz)) (xq_l sz) (xq "java/lang/IllegalArgumentException" sz) 1 6 (fun q => sz ≤ q) := by
  refine vx_ofW (cc := b_S_session) (maxL := 9) (ret := (Option.some Jvm.ClassFile.FieldType.long)) (by decide) rfl ?_
  intro pg en st mm ar bw me co s₁ B hml hex hv
  obtain ⟨rfl, hsz, ⟨hP, hK, hN⟩, hE, hZ⟩ := hv
  subst hsz
  have hx := B.exec
  have hb := B.bytes
  have hr := B.returns
  have hlocks := B.notSynchronized
  have hts0 := atoms_spec (ws := w_S_session) B.pre
  have hts : ∀ w ∈ gw, w.before _ st = true := fun w h => hts0 w (List.mem_cons_of_mem _ h)
  have hown : st.vm.findClass R_S = some mm.cls := findClass_of_methodNamed B.named
  have hl := lv_entry ([.ref s0, .int y1, .int (-1)]) (n := 9) (Nat.le_of_ble_eq_true rfl)
  rw [lg_entry_eq]
  generalize (lg_sl ([.ref s0, .int y1, .int (-1)]) ++ List.replicate (9 - (lg_sl ([.ref s0, .int y1, .int (-1)])).length) Slot.unset).toArray = ls at hl ⊢
  have hl : lv_has ls 9 [(0, .ref s0), (1, .int y1), (2, .int (-1))] := hl
  refine lv_aload_n hx hb d_S_session_0 rfl (lv_at hl 0 rfl) ?_
  refine lv_iload_n hx hb d_S_session_1 rfl (lv_at hl 2 rfl) ?_
  refine va_csv (va_Run.run (va_runV (As := [.int (-1)]) (rest := []) ⟨hx, hb, hml, hown, hts⟩ (c_S_requireFaultOrNoneN l dC dI cI cL s0 m0 c0 e0 q1 vr k1 k2 k3 k4 k5 cc gc oc) (cwV 1 hts (gi_V kw_416 kw_418 ks_S_requireFaultOrNone kw_1 gi_S_requireFaultOrNone) rfl rfl rfl ⟨rfl, by decide, by decide, by decide⟩ ⟨Nat.le_of_ble_eq_true rfl, Nat.le_of_ble_eq_true rfl⟩) (wq_preVR hP hK hN [0, 1] rfl (q0 := 0) (ci := 0) rfl rfl rfl) rfl rfl hl.1 rfl (lv_room (Nat.le_of_ble_eq_true rfl)) d_S_session_2 ⟨Nat.le_of_ble_eq_true rfl, Nat.le_of_ble_eq_true rfl⟩)) (fun q1_ => ?_)
  refine lv_aload_n hx hb d_S_session_5 rfl (lv_at hl 0 rfl) ?_
  refine lv_iload_n hx hb d_S_session_6 rfl (lv_at hl 1 rfl) ?_
  exact xq_cv (cells := 0) (slots := 0) (mc := 1) (ms := 6) (MC := 1) (MS := 6) (vx_runV (As := [.int y1]) (rest := []) ⟨hx, hb, hml, hown, hts⟩ (x_S_requirePatterns l dC dI cI cL hlt st.heap.size s0 m0 c0 e0 q1 vr y1 hy) (cwV 1 hts (gi_V kw_459 kw_461 ks_S_requirePatterns kw_1 gi_S_requirePatterns) rfl rfl rfl ⟨rfl, by decide, by decide, by decide⟩ ⟨Nat.le_of_ble_eq_true rfl, Nat.le_of_ble_eq_true rfl⟩) (wq_preVX hP hK hN hE hZ [0] rfl (q0 := 0) (ci := 0) rfl rfl rfl) rfl rfl hl.1 rfl (lv_room (Nat.le_of_ble_eq_true rfl)) d_S_session_7 ⟨Nat.le_of_ble_eq_true rfl, Nat.le_of_ble_eq_true rfl⟩) hex hlocks (Nat.le_of_ble_eq_true rfl) (Nat.le_of_ble_eq_true rfl)
set_option maxHeartbeats 4000000 in
set_option maxRecDepth 100000 in
theorem x_S_sessionBF (l : Launch) (dC : Nat → ClassId) (dI : Nat → Nat → Nat) (cI cL : ClassId) (hlt : l.stackTraces = false) (sz : Nat) (s0 m0 c0 e0 q1 : Nat) (vr : Nat) (k1 k2 k3 k4 k5 : Nat) (cc gc oc : Nat) (y1 : Int32) (hy : y1 < 0 ∨ ¬ y1 ≤ nI 256) (ff : Nat) (hff : ff < 2 * (cc + gc)) (hl1 : 2 * (cc + gc) < 2 ^ 31) : vx_Met l y_S_session w_S_session ({ frames := 7, cells := 1, slots := 6, locals := 103 } : Room) (va_Pc [.ref s0, .int y1, .int (nI ff)] (wq_X (dC, dI) classes [(s0, .inr (0, [.ref m0, .ref c0, .ref e0, .ref q1, .long (lN vr)])), (c0, .inr (2, [.ref k1, .ref k2, .ref k3, .ref k4, .ref k5, .int (nI cc), .int (nI gc), .int (nI oc)]))] [(cI, .int), (cL, .long)] sz)) (xq_l sz) (xq "java/lang/IllegalArgumentException" sz) 1 6 (fun q => sz ≤ q) := by
  refine vx_ofW (cc := b_S_session) (maxL := 9) (ret := (Option.some Jvm.ClassFile.FieldType.long)) (by decide) rfl ?_
  intro pg en st mm ar bw me co s₁ B hml hex hv
  obtain ⟨rfl, hsz, ⟨hP, hK, hN⟩, hE, hZ⟩ := hv
  subst hsz
  have hx := B.exec
  have hb := B.bytes
  have hr := B.returns
  have hlocks := B.notSynchronized
  have hts0 := atoms_spec (ws := w_S_session) B.pre
  have hts : ∀ w ∈ gw, w.before _ st = true := fun w h => hts0 w (List.mem_cons_of_mem _ h)
  have hown : st.vm.findClass R_S = some mm.cls := findClass_of_methodNamed B.named
  have hl := lv_entry ([.ref s0, .int y1, .int (nI ff)]) (n := 9) (Nat.le_of_ble_eq_true rfl)
  rw [lg_entry_eq]
  generalize (lg_sl ([.ref s0, .int y1, .int (nI ff)]) ++ List.replicate (9 - (lg_sl ([.ref s0, .int y1, .int (nI ff)])).length) Slot.unset).toArray = ls at hl ⊢
  have hl : lv_has ls 9 [(0, .ref s0), (1, .int y1), (2, .int (nI ff))] := hl
  refine lv_aload_n hx hb d_S_session_0 rfl (lv_at hl 0 rfl) ?_
  refine lv_iload_n hx hb d_S_session_1 rfl (lv_at hl 2 rfl) ?_
  refine va_csv (va_Run.run (va_runV (As := [.int (nI ff)]) (rest := []) ⟨hx, hb, hml, hown, hts⟩ (c_S_requireFaultOrNoneF l dC dI cI cL s0 m0 c0 e0 q1 vr k1 k2 k3 k4 k5 cc gc oc ff hff hl1) (cwV 1 hts (gi_V kw_416 kw_418 ks_S_requireFaultOrNone kw_1 gi_S_requireFaultOrNone) rfl rfl rfl ⟨rfl, by decide, by decide, by decide⟩ ⟨Nat.le_of_ble_eq_true rfl, Nat.le_of_ble_eq_true rfl⟩) (wq_preVR hP hK hN [0, 1] rfl (q0 := 0) (ci := 0) rfl rfl rfl) rfl rfl hl.1 rfl (lv_room (Nat.le_of_ble_eq_true rfl)) d_S_session_2 ⟨Nat.le_of_ble_eq_true rfl, Nat.le_of_ble_eq_true rfl⟩)) (fun q1_ => ?_)
  refine lv_aload_n hx hb d_S_session_5 rfl (lv_at hl 0 rfl) ?_
  refine lv_iload_n hx hb d_S_session_6 rfl (lv_at hl 1 rfl) ?_
  exact xq_cv (cells := 0) (slots := 0) (mc := 1) (ms := 6) (MC := 1) (MS := 6) (vx_runV (As := [.int y1]) (rest := []) ⟨hx, hb, hml, hown, hts⟩ (x_S_requirePatterns l dC dI cI cL hlt st.heap.size s0 m0 c0 e0 q1 vr y1 hy) (cwV 1 hts (gi_V kw_459 kw_461 ks_S_requirePatterns kw_1 gi_S_requirePatterns) rfl rfl rfl ⟨rfl, by decide, by decide, by decide⟩ ⟨Nat.le_of_ble_eq_true rfl, Nat.le_of_ble_eq_true rfl⟩) (wq_preVX hP hK hN hE hZ [0] rfl (q0 := 0) (ci := 0) rfl rfl rfl) rfl rfl hl.1 rfl (lv_room (Nat.le_of_ble_eq_true rfl)) d_S_session_7 ⟨Nat.le_of_ble_eq_true rfl, Nat.le_of_ble_eq_true rfl⟩) hex hlocks (Nat.le_of_ble_eq_true rfl) (Nat.le_of_ble_eq_true rfl)
set_option maxHeartbeats 4000000 in
set_option maxRecDepth 100000 in
theorem c_S_first (l : Launch) (dC : Nat → ClassId) (dI : Nat → Nat → Nat) (cI cL : ClassId) (sz : Nat) (s0 m0 c0 e0 q1 : Nat) (vr : Nat) (p n : Nat) (hm : md p n) (k1 k2 k3 k4 k5 : Nat) (cc gc oc : Nat) (kd lf rg ol : Nat → Nat) (hk : ck cc gc oc kd lf rg ol) (vv : Nat → Nat) (mk : Nat → Nat) (hmk : ∀ c, c < cc → mk c < 2 ^ 64) (hvr : vr < 2 ^ n) (m : Nat) (hmm : m ≤ 256) (ff : Nat) (hff : ff < 2 * (cc + gc)) : Met l y_S_first w_S_first ({ frames := 3, cells := 0, slots := 0, locals := 77 } : Room) (va_Pc [.ref s0, .int (nI m), .int (nI ff)] (wq_W (dC, dI) classes [(s0, .inr (0, [.ref m0, .ref c0, .ref e0, .ref q1, .long (lN vr)])), (m0, .inr (1, [.long (lN p), .int (nI n), .long (lN (px_r p 2))])), (c0, .inr (2, [.ref k1, .ref k2, .ref k3, .ref k4, .ref k5, .int (nI cc), .int (nI gc), .int (nI oc)])), (k1, .inl (cI, 24, .inl (fun c => nI (kd c)))), (k2, .inl (cI, 24, .inl (fun c => nI (lf c)))), (k3, .inl (cI, 24, .inl (fun c => nI (rg c)))), (k4, .inl (cI, 16, .inl (fun c => nI (ol c)))), (k5, .inl (cL, 32, .inr (.inl (fun c => lN (vv c))))), (q1, .inl (cL, 8, .inr (.inl (fun c => lN (mk c)))))] [(cI, .int), (cL, .long)] sz)) (va_Qi (fun (r : Int32) (u : Nat → Nat) => (∃ t, t < m ∧ fa p vr mk cc gc oc kd lf rg ol (some ff) t ≠ fa p vr mk cc gc oc kd lf rg ol none t ∧ (∀ j, j < t → fa p vr mk cc gc oc kd lf rg ol (some ff) j = fa p vr mk cc gc oc kd lf rg ol none j) ∧ r = nI t) ∨ ((∀ j, j < m → fa p vr mk cc gc oc kd lf rg ol (some ff) j = fa p vr mk cc gc oc kd lf rg ol none j) ∧ r = -1)) (fun (u : Nat → Nat) t => wq_B (dC, dI) classes [(cI, .int), (cL, .long)] (va_A [(s0, .inr (0, [.ref m0, .ref c0, .ref e0, .ref q1, .long (lN vr)])), (m0, .inr (1, [.long (lN p), .int (nI n), .long (lN (px_r p 2))])), (c0, .inr (2, [.ref k1, .ref k2, .ref k3, .ref k4, .ref k5, .int (nI cc), .int (nI gc), .int (nI oc)])), (k1, .inl (cI, 24, .inl (fun c => nI (kd c)))), (k2, .inl (cI, 24, .inl (fun c => nI (lf c)))), (k3, .inl (cI, 24, .inl (fun c => nI (rg c)))), (k4, .inl (cI, 16, .inl (fun c => nI (ol c)))), (k5, .inl (cL, 32, .inr (.inl (fun c => lN (vv c))))), (q1, .inl (cL, 8, .inr (.inl (fun c => lN (mk c)))))] sz) [(s0, .inr (0, [.ref m0, .ref c0, .ref e0, .ref q1, .long (lN vr)])), (m0, .inr (1, [.long (lN p), .int (nI n), .long (lN (px_r p 2))])), (c0, .inr (2, [.ref k1, .ref k2, .ref k3, .ref k4, .ref k5, .int (nI cc), .int (nI gc), .int (nI oc)])), (k1, .inl (cI, 24, .inl (fun c => nI (kd c)))), (k2, .inl (cI, 24, .inl (fun c => nI (lf c)))), (k3, .inl (cI, 24, .inl (fun c => nI (rg c)))), (k4, .inl (cI, 16, .inl (fun c => nI (ol c)))), (k5, .inl (cL, 32, .inr (.inl (fun c => lN (u c))))), (q1, .inl (cL, 8, .inr (.inl (fun c => lN (mk c)))))] t) (va_A [(s0, .inr (0, [.ref m0, .ref c0, .ref e0, .ref q1, .long (lN vr)])), (m0, .inr (1, [.long (lN p), .int (nI n), .long (lN (px_r p 2))])), (c0, .inr (2, [.ref k1, .ref k2, .ref k3, .ref k4, .ref k5, .int (nI cc), .int (nI gc), .int (nI oc)])), (k1, .inl (cI, 24, .inl (fun c => nI (kd c)))), (k2, .inl (cI, 24, .inl (fun c => nI (lf c)))), (k3, .inl (cI, 24, .inl (fun c => nI (rg c)))), (k4, .inl (cI, 16, .inl (fun c => nI (ol c)))), (k5, .inl (cL, 32, .inr (.inl (fun c => lN (vv c))))), (q1, .inl (cL, 8, .inr (.inl (fun c => lN (mk c)))))] sz)) 0 0 (va_A [(s0, .inr (0, [.ref m0, .ref c0, .ref e0, .ref q1, .long (lN vr)])), (m0, .inr (1, [.long (lN p), .int (nI n), .long (lN (px_r p 2))])), (c0, .inr (2, [.ref k1, .ref k2, .ref k3, .ref k4, .ref k5, .int (nI cc), .int (nI gc), .int (nI oc)])), (k1, .inl (cI, 24, .inl (fun c => nI (kd c)))), (k2, .inl (cI, 24, .inl (fun c => nI (lf c)))), (k3, .inl (cI, 24, .inl (fun c => nI (rg c)))), (k4, .inl (cI, 16, .inl (fun c => nI (ol c)))), (k5, .inl (cL, 32, .inr (.inl (fun c => lN (vv c))))), (q1, .inl (cL, 8, .inr (.inl (fun c => lN (mk c)))))] sz) := by
  refine Met.ofW (cc := b_S_first) (maxL := 7) (ret := (Option.some Jvm.ClassFile.FieldType.int)) (by decide) rfl ?_
  intro pg en st mm ar bw me co s₁ B hml hv
  obtain ⟨rfl, hsz, hP, hK, hD0, hN⟩ := hv
  have hx := B.exec
  have hb := B.bytes
  have hr := B.returns
  have hlocks := B.notSynchronized
  have hts0 := atoms_spec (ws := w_S_first) B.pre
  have hts : ∀ w ∈ gw, w.before _ st = true := fun w h => hts0 w (List.mem_cons_of_mem _ h)
  have hown : st.vm.findClass R_S = some mm.cls := findClass_of_methodNamed B.named
  subst hsz
  have hD := hD0.self (sz := st.heap.size)
  generalize hAe : va_A [(s0, .inr (0, [.ref m0, .ref c0, .ref e0, .ref q1, .long (lN vr)])), (m0, .inr (1, [.long (lN p), .int (nI n), .long (lN (px_r p 2))])), (c0, .inr (2, [.ref k1, .ref k2, .ref k3, .ref k4, .ref k5, .int (nI cc), .int (nI gc), .int (nI oc)])), (k1, .inl (cI, 24, .inl (fun c => nI (kd c)))), (k2, .inl (cI, 24, .inl (fun c => nI (lf c)))), (k3, .inl (cI, 24, .inl (fun c => nI (rg c)))), (k4, .inl (cI, 16, .inl (fun c => nI (ol c)))), (k5, .inl (cL, 32, .inr (.inl (fun c => lN (vv c))))), (q1, .inl (cL, 8, .inr (.inl (fun c => lN (mk c)))))] st.heap.size = A at hD ⊢
  have hA : ∀ q : Nat, st.heap.size ≤ q → A q := fun q h => by rw [← hAe]; exact Or.inr h
  have hS : va_S A st.heap st.heap [] := va_S.rf
  have hl := lv_entry ([.ref s0, .int (nI m), .int (nI ff)]) (n := 7) (Nat.le_of_ble_eq_true rfl)
  rw [lg_entry_eq]
  generalize (lg_sl ([.ref s0, .int (nI m), .int (nI ff)]) ++ List.replicate (7 - (lg_sl ([.ref s0, .int (nI m), .int (nI ff)])).length) Slot.unset).toArray = ls at hl ⊢
  have hl : lv_has ls 7 [(0, .ref s0), (1, .int (nI m)), (2, .int (nI ff))] := hl
  have h1 := hk.1
  have h2 := hk.2.1
  have h3 := hk.2.2.1
  have loop : ∀ (j t : Nat) (u : Nat → Nat), j + t = m → (∀ i, i < t → fa p vr mk cc gc oc kd lf rg ol (some ff) i = fa p vr mk cc gc oc kd lf rg ol none i) → ∀ (H : Heap) (locs : List Loc), va_P (dC, dI) classes [(s0, .inr (0, [.ref m0, .ref c0, .ref e0, .ref q1, .long (lN vr)])), (m0, .inr (1, [.long (lN p), .int (nI n), .long (lN (px_r p 2))])), (c0, .inr (2, [.ref k1, .ref k2, .ref k3, .ref k4, .ref k5, .int (nI cc), .int (nI gc), .int (nI oc)])), (k1, .inl (cI, 24, .inl (fun c => nI (kd c)))), (k2, .inl (cI, 24, .inl (fun c => nI (lf c)))), (k3, .inl (cI, 24, .inl (fun c => nI (rg c)))), (k4, .inl (cI, 16, .inl (fun c => nI (ol c)))), (k5, .inl (cL, 32, .inr (.inl (fun c => lN (u c))))), (q1, .inl (cL, 8, .inr (.inl (fun c => lN (mk c)))))] H → va_D A [(s0, .inr (0, [.ref m0, .ref c0, .ref e0, .ref q1, .long (lN vr)])), (m0, .inr (1, [.long (lN p), .int (nI n), .long (lN (px_r p 2))])), (c0, .inr (2, [.ref k1, .ref k2, .ref k3, .ref k4, .ref k5, .int (nI cc), .int (nI gc), .int (nI oc)])), (k1, .inl (cI, 24, .inl (fun c => nI (kd c)))), (k2, .inl (cI, 24, .inl (fun c => nI (lf c)))), (k3, .inl (cI, 24, .inl (fun c => nI (rg c)))), (k4, .inl (cI, 16, .inl (fun c => nI (ol c)))), (k5, .inl (cL, 32, .inr (.inl (fun c => lN (u c))))), (q1, .inl (cL, 8, .inr (.inl (fun c => lN (mk c)))))] → va_S A st.heap H locs → ∀ (ls : Array Slot), lv_has ls 7 [(0, .ref s0), (1, .int (nI m)), (2, .int (nI ff)), (3, .long (lN (rg_t p vr t))), (5, .int (nI t))] → W pg l en (headSpec w_S_first ({ frames := 3, cells := 0, slots := 0, locals := 77 } : Room)).room st mm ([.ref s0, .int (nI m), .int (nI ff)] : List Value).toArray bw me co H locs 0 0 (MQ bw (va_Qi (fun (r : Int32) (u : Nat → Nat) => (∃ t, t < m ∧ fa p vr mk cc gc oc kd lf rg ol (some ff) t ≠ fa p vr mk cc gc oc kd lf rg ol none t ∧ (∀ j, j < t → fa p vr mk cc gc oc kd lf rg ol (some ff) j = fa p vr mk cc gc oc kd lf rg ol none j) ∧ r = nI t) ∨ ((∀ j, j < m → fa p vr mk cc gc oc kd lf rg ol (some ff) j = fa p vr mk cc gc oc kd lf rg ol none j) ∧ r = -1)) (fun (u : Nat → Nat) t => wq_B (dC, dI) classes [(cI, .int), (cL, .long)] A [(s0, .inr (0, [.ref m0, .ref c0, .ref e0, .ref q1, .long (lN vr)])), (m0, .inr (1, [.long (lN p), .int (nI n), .long (lN (px_r p 2))])), (c0, .inr (2, [.ref k1, .ref k2, .ref k3, .ref k4, .ref k5, .int (nI cc), .int (nI gc), .int (nI oc)])), (k1, .inl (cI, 24, .inl (fun c => nI (kd c)))), (k2, .inl (cI, 24, .inl (fun c => nI (lf c)))), (k3, .inl (cI, 24, .inl (fun c => nI (rg c)))), (k4, .inl (cI, 16, .inl (fun c => nI (ol c)))), (k5, .inl (cL, 32, .inr (.inl (fun c => lN (u c))))), (q1, .inl (cL, 8, .inr (.inl (fun c => lN (mk c)))))] t) A) ([.ref s0, .int (nI m), .int (nI ff)] : List Value).toArray st 0 0 A) (F0 mm 18 ls []) := by
    intro j
    induction j with
    | zero =>
      intro t u hj hsame H locs hP hD hS ls hl
      refine lv_iload hx hb d_S_first_18 (lv_at hl 4 rfl) ?_
      refine lv_iload_n hx hb d_S_first_20 rfl (lv_at hl 1 rfl) ?_
      refine lv_icmp_ge (tgt := 72) hx hb d_S_first_21 (by decide) (fun hc => ?_) (fun hc => ?_)
      · refine lv_iconst (v := (-1)) hx hb d_S_first_72 (by decide) ?_
        have hP := hP.sub (ws' := [(s0, .inr (0, [.ref m0, .ref c0, .ref e0, .ref q1, .long (lN vr)])), (m0, .inr (1, [.long (lN p), .int (nI n), .long (lN (px_r p 2))])), (c0, .inr (2, [.ref k1, .ref k2, .ref k3, .ref k4, .ref k5, .int (nI cc), .int (nI gc), .int (nI oc)])), (k1, .inl (cI, 24, .inl (fun c => nI (kd c)))), (k2, .inl (cI, 24, .inl (fun c => nI (lf c)))), (k3, .inl (cI, 24, .inl (fun c => nI (rg c)))), (k4, .inl (cI, 16, .inl (fun c => nI (ol c)))), (k5, .inl (cL, 32, .inr (.inl (fun c => lN (u c))))), (q1, .inl (cL, 8, .inr (.inl (fun c => lN (mk c)))))]) [0, 1, 2, 3, 4, 5, 6, 7, 8] rfl
        have hD := hD.sub (ws' := [(s0, .inr (0, [.ref m0, .ref c0, .ref e0, .ref q1, .long (lN vr)])), (m0, .inr (1, [.long (lN p), .int (nI n), .long (lN (px_r p 2))])), (c0, .inr (2, [.ref k1, .ref k2, .ref k3, .ref k4, .ref k5, .int (nI cc), .int (nI gc), .int (nI oc)])), (k1, .inl (cI, 24, .inl (fun c => nI (kd c)))), (k2, .inl (cI, 24, .inl (fun c => nI (lf c)))), (k3, .inl (cI, 24, .inl (fun c => nI (rg c)))), (k4, .inl (cI, 16, .inl (fun c => nI (ol c)))), (k5, .inl (cL, 32, .inr (.inl (fun c => lN (u c))))), (q1, .inl (cL, 8, .inr (.inl (fun c => lN (mk c)))))]) [0, 1, 2, 3, 4, 5, 6, 7, 8] (by decide) rfl
        exact W.iret (v := (-1)) hx hb hr (fun t9 ht hW => ⟨⟨(-1), u, rfl, Or.inr ⟨fun i hi => hsame i (by omega), rfl⟩, by rw [ht]; exact hP, va_K.moved hW.alike hK, hD⟩, hS.F ht⟩) hS.2.2 d_S_first_73
      · exact absurd ((nI_leI (by omega) (by omega)).mpr (by omega)) hc
    | succ j ih =>
      intro t u hj hsame H locs hP hD hS ls hl
      have hrl := rg_lt hm hvr t
      have hrl2 := res_lt hm hrl
      have hpl := pt_lt mk (rg_t p vr t) cc
      have hp8 : 2 ^ cc ≤ 2 ^ 8 := Nat.pow_le_pow_right (by decide) h1
      have ho16 : 2 ^ oc ≤ 2 ^ 16 := Nat.pow_le_pow_right (by decide) h3
      have hal1 := ci_a_lt ol (ci_t cc kd lf rg (pt_n mk (rg_t p vr t) cc) none (cc + gc)) oc
      have hal2 := ci_a_lt ol (ci_t cc kd lf rg (pt_n mk (rg_t p vr t) cc) (some ff) (cc + gc)) oc
      refine lv_iload hx hb d_S_first_18 (lv_at hl 4 rfl) ?_
      refine lv_iload_n hx hb d_S_first_20 rfl (lv_at hl 1 rfl) ?_
      refine lv_icmp_ge (tgt := 72) hx hb d_S_first_21 (by decide) (fun hc => ?_) (fun hc => ?_)
      · exact absurd ((nI_leI (by omega) (by omega)).mp hc) (by omega)
      · refine lv_aload_n hx hb d_S_first_24 rfl (lv_at hl 0 rfl) ?_
        refine lv_lload_n hx hb d_S_first_25 rfl (lv_at hl 3 rfl) ?_
        refine vp_callSi (va_Run.run (va_runV (As := [.long (lN (rg_t p vr t))]) (rest := []) ⟨hx, hb, hml, hown, hts⟩ (c_S_patternOf l dC dI cI cL s0 m0 c0 e0 q1 vr k1 k2 k3 k4 k5 cc gc oc mk hmk h1 (rg_t p vr t) (by omega)) (cwV 1 hts (gi_V kw_193 kw_195 ks_S_patternOf kw_1 gi_S_patternOf) rfl rfl rfl ⟨rfl, by decide, by decide, by decide⟩ ⟨Nat.le_of_ble_eq_true rfl, Nat.le_of_ble_eq_true rfl⟩) (wq_preVR hP hK hN [0, 2, 8] rfl (q0 := 0) (ci := 0) rfl rfl rfl) rfl rfl hl.1 rfl (lv_room (Nat.le_of_ble_eq_true rfl)) d_S_first_26 ⟨Nat.le_of_ble_eq_true rfl, Nat.le_of_ble_eq_true rfl⟩)) (fun r hq => ?_)
        subst hq
        refine lv_istore (lv' := [(6, .int (nI (pt_n mk (rg_t p vr t) cc))), (0, .ref s0), (1, .int (nI m)), (2, .int (nI ff)), (3, .long (lN (rg_t p vr t))), (5, .int (nI t))]) hx hb d_S_first_29 hl (by decide) rfl (fun ls hl => ?_)
        refine lv_aload_n hx hb d_S_first_31 rfl (lv_at hl 1 rfl) ?_
        refine va_get (D := (dC, dI)) (ci := 0) (v := .ref c0) (C := R_S) (T := F_S) (N := 5) hx hb hts in_S hown hK hP 0 rfl rfl 1 (by decide) (hts _ kw_95) (fun _ h9 => h9) rfl d_S_first_32 ?_
        refine lv_iload hx hb d_S_first_35 (lv_at hl 0 rfl) ?_
        refine lv_iload_n hx hb d_S_first_37 rfl (lv_at hl 3 rfl) ?_
        refine wq_i (wr := [(s0, .inr (0, [.ref m0, .ref c0, .ref e0, .ref q1, .long (lN vr)])), (m0, .inr (1, [.long (lN p), .int (nI n), .long (lN (px_r p 2))])), (q1, .inl (cL, 8, .inr (.inl (fun c => lN (mk c)))))]) (va_runVN (As := [.int (nI (pt_n mk (rg_t p vr t) cc)), .int (nI ff)]) (rest := []) ⟨hx, hb, hml, hown, hts⟩ (c_C_answerToF l dC dI cI cL H.size c0 k1 k2 k3 k4 k5 cc gc oc kd lf rg ol u hk (pt_n mk (rg_t p vr t) cc) (by omega) ff (by omega)) ⟨va_cnB 2 hts gi_C_answerTo rfl rfl rfl (hN _ kw_429) (hts _ kw_3) ⟨by decide, by decide, by decide⟩ ⟨Nat.le_of_ble_eq_true rfl, Nat.le_of_ble_eq_true rfl⟩, hts _ kw_431, hts _ ks_C_answerTo⟩ (wq_preVW hP hD hK hN [2, 3, 4, 5, 6, 7] rfl rfl (q0 := 2) (ci := 2) rfl rfl rfl) rfl rfl hl.1 rfl (lv_room (Nat.le_of_ble_eq_true rfl)) d_S_first_38 ⟨Nat.le_of_ble_eq_true rfl, Nat.le_of_ble_eq_true rfl⟩) hP hD hS hA [2, 3, 4, 5, 6, 7] [0, 1, 8] rfl rfl rfl (by decide) (fun r2 u2 H locs hq2 hP hD hS hz => ?_)
        have hP : va_P (dC, dI) classes [(s0, .inr (0, [.ref m0, .ref c0, .ref e0, .ref q1, .long (lN vr)])), (m0, .inr (1, [.long (lN p), .int (nI n), .long (lN (px_r p 2))])), (q1, .inl (cL, 8, .inr (.inl (fun c => lN (mk c))))), (c0, .inr (2, [.ref k1, .ref k2, .ref k3, .ref k4, .ref k5, .int (nI cc), .int (nI gc), .int (nI oc)])), (k1, .inl (cI, 24, .inl (fun c => nI (kd c)))), (k2, .inl (cI, 24, .inl (fun c => nI (lf c)))), (k3, .inl (cI, 24, .inl (fun c => nI (rg c)))), (k4, .inl (cI, 16, .inl (fun c => nI (ol c)))), (k5, .inl (cL, 32, .inr (.inl (fun c => lN (u2 c)))))] H := hP
        have hD : va_D A [(s0, .inr (0, [.ref m0, .ref c0, .ref e0, .ref q1, .long (lN vr)])), (m0, .inr (1, [.long (lN p), .int (nI n), .long (lN (px_r p 2))])), (q1, .inl (cL, 8, .inr (.inl (fun c => lN (mk c))))), (c0, .inr (2, [.ref k1, .ref k2, .ref k3, .ref k4, .ref k5, .int (nI cc), .int (nI gc), .int (nI oc)])), (k1, .inl (cI, 24, .inl (fun c => nI (kd c)))), (k2, .inl (cI, 24, .inl (fun c => nI (lf c)))), (k3, .inl (cI, 24, .inl (fun c => nI (rg c)))), (k4, .inl (cI, 16, .inl (fun c => nI (ol c)))), (k5, .inl (cL, 32, .inr (.inl (fun c => lN (u2 c)))))] := hD
        have hq2 : r2 = nI (fa p vr mk cc gc oc kd lf rg ol (some ff) t) := hq2
        subst hq2
        refine lv_aload_n hx hb d_S_first_41 rfl (lv_at hl 1 rfl) ?_
        refine va_get (D := (dC, dI)) (ci := 0) (v := .ref c0) (C := R_S) (T := F_S) (N := 5) hx hb hts in_S hown hK hP 0 rfl rfl 1 (by decide) (hts _ kw_95) (fun _ h9 => h9) rfl d_S_first_42 ?_
        refine lv_iload hx hb d_S_first_45 (lv_at hl 0 rfl) ?_
        refine lv_iconst (v := (-1)) hx hb d_S_first_47 (by decide) ?_
        refine wq_i (wr := [(s0, .inr (0, [.ref m0, .ref c0, .ref e0, .ref q1, .long (lN vr)])), (m0, .inr (1, [.long (lN p), .int (nI n), .long (lN (px_r p 2))])), (q1, .inl (cL, 8, .inr (.inl (fun c => lN (mk c)))))]) (va_runVN (As := [.int (nI (pt_n mk (rg_t p vr t) cc)), .int (-1)]) (rest := [.int (nI (fa p vr mk cc gc oc kd lf rg ol (some ff) t))]) ⟨hx, hb, hml, hown, hts⟩ (c_C_answerToN l dC dI cI cL H.size c0 k1 k2 k3 k4 k5 cc gc oc kd lf rg ol u2 hk (pt_n mk (rg_t p vr t) cc) (by omega)) ⟨va_cnB 2 hts gi_C_answerTo rfl rfl rfl (hN _ kw_429) (hts _ kw_3) ⟨by decide, by decide, by decide⟩ ⟨Nat.le_of_ble_eq_true rfl, Nat.le_of_ble_eq_true rfl⟩, hts _ kw_431, hts _ ks_C_answerTo⟩ (wq_preVW hP hD hK hN [3, 4, 5, 6, 7, 8] rfl rfl (q0 := 3) (ci := 2) rfl rfl rfl) rfl rfl hl.1 rfl (lv_room (Nat.le_of_ble_eq_true rfl)) d_S_first_48 ⟨Nat.le_of_ble_eq_true rfl, Nat.le_of_ble_eq_true rfl⟩) hP hD hS hA [3, 4, 5, 6, 7, 8] [0, 1, 2] rfl rfl rfl (by decide) (fun r3 u3 H locs hq3 hP hD hS hz => ?_)
        have hP : va_P (dC, dI) classes [(s0, .inr (0, [.ref m0, .ref c0, .ref e0, .ref q1, .long (lN vr)])), (m0, .inr (1, [.long (lN p), .int (nI n), .long (lN (px_r p 2))])), (q1, .inl (cL, 8, .inr (.inl (fun c => lN (mk c))))), (c0, .inr (2, [.ref k1, .ref k2, .ref k3, .ref k4, .ref k5, .int (nI cc), .int (nI gc), .int (nI oc)])), (k1, .inl (cI, 24, .inl (fun c => nI (kd c)))), (k2, .inl (cI, 24, .inl (fun c => nI (lf c)))), (k3, .inl (cI, 24, .inl (fun c => nI (rg c)))), (k4, .inl (cI, 16, .inl (fun c => nI (ol c)))), (k5, .inl (cL, 32, .inr (.inl (fun c => lN (u3 c)))))] H := hP
        have hD : va_D A [(s0, .inr (0, [.ref m0, .ref c0, .ref e0, .ref q1, .long (lN vr)])), (m0, .inr (1, [.long (lN p), .int (nI n), .long (lN (px_r p 2))])), (q1, .inl (cL, 8, .inr (.inl (fun c => lN (mk c))))), (c0, .inr (2, [.ref k1, .ref k2, .ref k3, .ref k4, .ref k5, .int (nI cc), .int (nI gc), .int (nI oc)])), (k1, .inl (cI, 24, .inl (fun c => nI (kd c)))), (k2, .inl (cI, 24, .inl (fun c => nI (lf c)))), (k3, .inl (cI, 24, .inl (fun c => nI (rg c)))), (k4, .inl (cI, 16, .inl (fun c => nI (ol c)))), (k5, .inl (cL, 32, .inr (.inl (fun c => lN (u3 c)))))] := hD
        have hq3 : r3 = nI (fa p vr mk cc gc oc kd lf rg ol none t) := hq3
        subst hq3
        have hal1 : fa p vr mk cc gc oc kd lf rg ol none t < 2 ^ oc := hal1
        have hal2 : fa p vr mk cc gc oc kd lf rg ol (some ff) t < 2 ^ oc := hal2
        refine lv_icmp_eq (tgt := 57) hx hb d_S_first_51 (by decide) (fun heq => ?_) (fun heq => ?_)
        · have heq : fa p vr mk cc gc oc kd lf rg ol (some ff) t = fa p vr mk cc gc oc kd lf rg ol none t := nI_injN (by omega) (by omega) heq
          refine lv_aload_n hx hb d_S_first_57 rfl (lv_at hl 1 rfl) ?_
          refine va_get (D := (dC, dI)) (ci := 0) (v := .ref m0) (C := R_S) (T := F_S) (N := 5) hx hb hts in_S hown hK hP 0 rfl rfl 0 (by decide) (hts _ kw_94) (fun _ h9 => h9) rfl d_S_first_58 ?_
          refine lv_lload_n hx hb d_S_first_61 rfl (lv_at hl 4 rfl) ?_
          refine vp_callSl (va_Run.run (va_runVN (As := [.long (lN (rg_t p vr t))]) (rest := []) ⟨hx, hb, hml, hown, hts⟩ (c_M_stepped l dC dI cI cL m0 p n _ hm hrl) ⟨va_cnB 1 hts gi_M_stepped rfl rfl rfl (hN _ kw_464) (hts _ kw_2) ⟨by decide, by decide, by decide⟩ ⟨Nat.le_of_ble_eq_true rfl, Nat.le_of_ble_eq_true rfl⟩, hts _ kw_145, hts _ ks_M_stepped⟩ (wq_preVR hP hK hN [1] rfl (q0 := 1) (ci := 1) rfl rfl rfl) rfl rfl hl.1 rfl (lv_room (Nat.le_of_ble_eq_true rfl)) d_S_first_62 ⟨Nat.le_of_ble_eq_true rfl, Nat.le_of_ble_eq_true rfl⟩)) (fun r5 hq5 => ?_)
          subst hq5
          refine lv_lstore_n (lv' := [(3, .long (lN (rg_t p vr (t + 1)))), (6, .int (nI (pt_n mk (rg_t p vr t) cc))), (0, .ref s0), (1, .int (nI m)), (2, .int (nI ff)), (5, .int (nI t))]) hx hb d_S_first_65 rfl hl (by decide) rfl (fun ls hl => ?_)
          refine lv_iinc (v := nI (t + 1)) (lv' := [(5, .int (nI (t + 1))), (3, .long (lN (rg_t p vr (t + 1)))), (6, .int (nI (pt_n mk (rg_t p vr t) cc))), (0, .ref s0), (1, .int (nI m)), (2, .int (nI ff))]) hx hb d_S_first_66 hl (k := 5) rfl (nI_1 t) (by decide) rfl (fun ls hl => ?_)
          refine lv_goto (tgt := 18) hx hb d_S_first_69 (by decide) ?_
          have hl := lv_sub (l' := [(0, .ref s0), (1, .int (nI m)), (2, .int (nI ff)), (3, .long (lN (rg_t p vr (t + 1)))), (5, .int (nI (t + 1)))]) hl [3, 4, 5, 1, 0] rfl
          have hP := hP.sub (ws' := [(s0, .inr (0, [.ref m0, .ref c0, .ref e0, .ref q1, .long (lN vr)])), (m0, .inr (1, [.long (lN p), .int (nI n), .long (lN (px_r p 2))])), (c0, .inr (2, [.ref k1, .ref k2, .ref k3, .ref k4, .ref k5, .int (nI cc), .int (nI gc), .int (nI oc)])), (k1, .inl (cI, 24, .inl (fun c => nI (kd c)))), (k2, .inl (cI, 24, .inl (fun c => nI (lf c)))), (k3, .inl (cI, 24, .inl (fun c => nI (rg c)))), (k4, .inl (cI, 16, .inl (fun c => nI (ol c)))), (k5, .inl (cL, 32, .inr (.inl (fun c => lN (u3 c))))), (q1, .inl (cL, 8, .inr (.inl (fun c => lN (mk c)))))]) [0, 1, 3, 4, 5, 6, 7, 8, 2] rfl
          have hD := hD.sub (ws' := [(s0, .inr (0, [.ref m0, .ref c0, .ref e0, .ref q1, .long (lN vr)])), (m0, .inr (1, [.long (lN p), .int (nI n), .long (lN (px_r p 2))])), (c0, .inr (2, [.ref k1, .ref k2, .ref k3, .ref k4, .ref k5, .int (nI cc), .int (nI gc), .int (nI oc)])), (k1, .inl (cI, 24, .inl (fun c => nI (kd c)))), (k2, .inl (cI, 24, .inl (fun c => nI (lf c)))), (k3, .inl (cI, 24, .inl (fun c => nI (rg c)))), (k4, .inl (cI, 16, .inl (fun c => nI (ol c)))), (k5, .inl (cL, 32, .inr (.inl (fun c => lN (u3 c))))), (q1, .inl (cL, 8, .inr (.inl (fun c => lN (mk c)))))]) [0, 1, 3, 4, 5, 6, 7, 8, 2] (by decide) rfl
          exact ih (t + 1) u3 (by omega) (fun i hi => by
            by_cases e9 : i = t
            · rw [e9]; exact heq
            · exact hsame i (by omega)) H locs hP hD hS ls hl
        · have heq : fa p vr mk cc gc oc kd lf rg ol (some ff) t ≠ fa p vr mk cc gc oc kd lf rg ol none t := fun z => heq (by rw [z])
          refine lv_iload hx hb d_S_first_54 (lv_at hl 5 rfl) ?_
          have hP := hP.sub (ws' := [(s0, .inr (0, [.ref m0, .ref c0, .ref e0, .ref q1, .long (lN vr)])), (m0, .inr (1, [.long (lN p), .int (nI n), .long (lN (px_r p 2))])), (c0, .inr (2, [.ref k1, .ref k2, .ref k3, .ref k4, .ref k5, .int (nI cc), .int (nI gc), .int (nI oc)])), (k1, .inl (cI, 24, .inl (fun c => nI (kd c)))), (k2, .inl (cI, 24, .inl (fun c => nI (lf c)))), (k3, .inl (cI, 24, .inl (fun c => nI (rg c)))), (k4, .inl (cI, 16, .inl (fun c => nI (ol c)))), (k5, .inl (cL, 32, .inr (.inl (fun c => lN (u3 c))))), (q1, .inl (cL, 8, .inr (.inl (fun c => lN (mk c)))))]) [0, 1, 3, 4, 5, 6, 7, 8, 2] rfl
          have hD := hD.sub (ws' := [(s0, .inr (0, [.ref m0, .ref c0, .ref e0, .ref q1, .long (lN vr)])), (m0, .inr (1, [.long (lN p), .int (nI n), .long (lN (px_r p 2))])), (c0, .inr (2, [.ref k1, .ref k2, .ref k3, .ref k4, .ref k5, .int (nI cc), .int (nI gc), .int (nI oc)])), (k1, .inl (cI, 24, .inl (fun c => nI (kd c)))), (k2, .inl (cI, 24, .inl (fun c => nI (lf c)))), (k3, .inl (cI, 24, .inl (fun c => nI (rg c)))), (k4, .inl (cI, 16, .inl (fun c => nI (ol c)))), (k5, .inl (cL, 32, .inr (.inl (fun c => lN (u3 c))))), (q1, .inl (cL, 8, .inr (.inl (fun c => lN (mk c)))))]) [0, 1, 3, 4, 5, 6, 7, 8, 2] (by decide) rfl
          exact W.iret (v := nI t) hx hb hr (fun t9 ht hW => ⟨⟨nI t, u3, rfl, Or.inl ⟨t, by omega, heq, hsame, rfl⟩, by rw [ht]; exact hP, va_K.moved hW.alike hK, hD⟩, hS.F ht⟩) hS.2.2 d_S_first_56
  refine lv_aload_n hx hb d_S_first_0 rfl (lv_at hl 0 rfl) ?_
  refine lv_iload_n hx hb d_S_first_1 rfl (lv_at hl 2 rfl) ?_
  refine va_csv (va_Run.run (va_runV (As := [.int (nI ff)]) (rest := []) ⟨hx, hb, hml, hown, hts⟩ (c_S_requireFault l dC dI cI cL s0 m0 c0 e0 q1 vr k1 k2 k3 k4 k5 cc gc oc ff hff (by omega)) (cwV 1 hts (gi_V kw_420 kw_422 ks_S_requireFault kw_1 gi_S_requireFault) rfl rfl rfl ⟨rfl, by decide, by decide, by decide⟩ ⟨Nat.le_of_ble_eq_true rfl, Nat.le_of_ble_eq_true rfl⟩) (wq_preVR hP hK hN [0, 2] rfl (q0 := 0) (ci := 0) rfl rfl rfl) rfl rfl hl.1 rfl (lv_room (Nat.le_of_ble_eq_true rfl)) d_S_first_2 ⟨Nat.le_of_ble_eq_true rfl, Nat.le_of_ble_eq_true rfl⟩)) (fun q1_ => ?_)
  refine lv_aload_n hx hb d_S_first_5 rfl (lv_at hl 0 rfl) ?_
  refine lv_iload_n hx hb d_S_first_6 rfl (lv_at hl 1 rfl) ?_
  refine va_csv (va_Run.run (va_runV (As := [.int (nI m)]) (rest := []) ⟨hx, hb, hml, hown, hts⟩ (c_S_requirePatterns l dC dI cI cL s0 m0 c0 e0 q1 vr m hmm) (cwV 1 hts (gi_V kw_459 kw_461 ks_S_requirePatterns kw_1 gi_S_requirePatterns) rfl rfl rfl ⟨rfl, by decide, by decide, by decide⟩ ⟨Nat.le_of_ble_eq_true rfl, Nat.le_of_ble_eq_true rfl⟩) (wq_preVR hP hK hN [0] rfl (q0 := 0) (ci := 0) rfl rfl rfl) rfl rfl hl.1 rfl (lv_room (Nat.le_of_ble_eq_true rfl)) d_S_first_7 ⟨Nat.le_of_ble_eq_true rfl, Nat.le_of_ble_eq_true rfl⟩)) (fun q2_ => ?_)
  refine lv_aload_n hx hb d_S_first_10 rfl (lv_at hl 0 rfl) ?_
  refine va_get (D := (dC, dI)) (ci := 0) (v := .long (lN vr)) (C := R_S) (T := F_S) (N := 5) hx hb hts in_S hown hK hP 0 rfl rfl 4 (by decide) (hts _ kw_98) (fun _ h9 => h9) rfl d_S_first_11 ?_
  refine lv_lstore_n (lv' := [(3, .long (lN vr)), (0, .ref s0), (1, .int (nI m)), (2, .int (nI ff))]) hx hb d_S_first_14 rfl hl (by decide) rfl (fun ls hl => ?_)
  refine lv_iconst (v := nI 0) hx hb d_S_first_15 (by decide) ?_
  refine lv_istore (lv' := [(5, .int (nI 0)), (3, .long (lN vr)), (0, .ref s0), (1, .int (nI m)), (2, .int (nI ff))]) hx hb d_S_first_16 hl (by decide) rfl (fun ls hl => ?_)
  have hl := lv_sub (l' := [(0, .ref s0), (1, .int (nI m)), (2, .int (nI ff)), (3, .long (lN vr)), (5, .int (nI 0))]) hl [2, 3, 4, 1, 0] rfl
  exact loop m 0 vv rfl (fun i hi => absurd hi (Nat.not_lt_zero i)) _ _ hP hD hS ls hl
set_option maxHeartbeats 4000000 in
set_option maxRecDepth 100000 in
theorem x_S_firstA (l : Launch) (dC : Nat → ClassId) (dI : Nat → Nat → Nat) (cI cL : ClassId) (hlt : l.stackTraces = false) (sz : Nat) (s0 m0 c0 e0 q1 : Nat) (vr : Nat) (k1 k2 k3 k4 k5 : Nat) (cc gc oc : Nat) (y1 y : Int32) (hy : y < 0 ∨ ¬ y < nI (2 * (cc + gc))) : vx_Met l y_S_first w_S_first ({ frames := 7, cells := 1, slots := 6, locals := 103 } : Room) (va_Pc [.ref s0, .int y1, .int y] (wq_X (dC, dI) classes [(s0, .inr (0, [.ref m0, .ref c0, .ref e0, .ref q1, .long (lN vr)])), (c0, .inr (2, [.ref k1, .ref k2, .ref k3, .ref k4, .ref k5, .int (nI cc), .int (nI gc), .int (nI oc)]))] [(cI, .int), (cL, .long)] sz)) (xq_i sz) (xq "java/lang/IndexOutOfBoundsException" sz) 1 6 (fun q => sz ≤ q) := by
  refine vx_ofW (cc := b_S_first) (maxL := 7) (ret := (Option.some Jvm.ClassFile.FieldType.int)) (by decide) rfl ?_
  intro pg en st mm ar bw me co s₁ B hml hex hv
  obtain ⟨rfl, hsz, ⟨hP, hK, hN⟩, hE, hZ⟩ := hv
  subst hsz
  have hx := B.exec
  have hb := B.bytes
  have hr := B.returns
  have hlocks := B.notSynchronized
  have hts0 := atoms_spec (ws := w_S_first) B.pre
  have hts : ∀ w ∈ gw, w.before _ st = true := fun w h => hts0 w (List.mem_cons_of_mem _ h)
  have hown : st.vm.findClass R_S = some mm.cls := findClass_of_methodNamed B.named
  have hl := lv_entry ([.ref s0, .int y1, .int y]) (n := 7) (Nat.le_of_ble_eq_true rfl)
  rw [lg_entry_eq]
  generalize (lg_sl ([.ref s0, .int y1, .int y]) ++ List.replicate (7 - (lg_sl ([.ref s0, .int y1, .int y])).length) Slot.unset).toArray = ls at hl ⊢
  have hl : lv_has ls 7 [(0, .ref s0), (1, .int y1), (2, .int y)] := hl
  refine lv_aload_n hx hb d_S_first_0 rfl (lv_at hl 0 rfl) ?_
  refine lv_iload_n hx hb d_S_first_1 rfl (lv_at hl 2 rfl) ?_
  exact xq_cv (cells := 0) (slots := 0) (mc := 1) (ms := 6) (MC := 1) (MS := 6) (vx_runV (As := [.int y]) (rest := []) ⟨hx, hb, hml, hown, hts⟩ (x_S_requireFault l dC dI cI cL hlt st.heap.size s0 m0 c0 e0 q1 vr k1 k2 k3 k4 k5 cc gc oc y hy) (cwV 1 hts (gi_V kw_420 kw_422 ks_S_requireFault kw_1 gi_S_requireFault) rfl rfl rfl ⟨rfl, by decide, by decide, by decide⟩ ⟨Nat.le_of_ble_eq_true rfl, Nat.le_of_ble_eq_true rfl⟩) (wq_preVX hP hK hN hE hZ [0, 1] rfl (q0 := 0) (ci := 0) rfl rfl rfl) rfl rfl hl.1 rfl (lv_room (Nat.le_of_ble_eq_true rfl)) d_S_first_2 ⟨Nat.le_of_ble_eq_true rfl, Nat.le_of_ble_eq_true rfl⟩) hex hlocks (Nat.le_of_ble_eq_true rfl) (Nat.le_of_ble_eq_true rfl)
set_option maxHeartbeats 4000000 in
set_option maxRecDepth 100000 in
theorem x_S_firstB (l : Launch) (dC : Nat → ClassId) (dI : Nat → Nat → Nat) (cI cL : ClassId) (hlt : l.stackTraces = false) (sz : Nat) (s0 m0 c0 e0 q1 : Nat) (vr : Nat) (k1 k2 k3 k4 k5 : Nat) (cc gc oc : Nat) (y1 : Int32) (hy : y1 < 0 ∨ ¬ y1 ≤ nI 256) (ff : Nat) (hff : ff < 2 * (cc + gc)) (hl1 : 2 * (cc + gc) < 2 ^ 31) : vx_Met l y_S_first w_S_first ({ frames := 7, cells := 1, slots := 6, locals := 103 } : Room) (va_Pc [.ref s0, .int y1, .int (nI ff)] (wq_X (dC, dI) classes [(s0, .inr (0, [.ref m0, .ref c0, .ref e0, .ref q1, .long (lN vr)])), (c0, .inr (2, [.ref k1, .ref k2, .ref k3, .ref k4, .ref k5, .int (nI cc), .int (nI gc), .int (nI oc)]))] [(cI, .int), (cL, .long)] sz)) (xq_i sz) (xq "java/lang/IllegalArgumentException" sz) 1 6 (fun q => sz ≤ q) := by
  refine vx_ofW (cc := b_S_first) (maxL := 7) (ret := (Option.some Jvm.ClassFile.FieldType.int)) (by decide) rfl ?_
  intro pg en st mm ar bw me co s₁ B hml hex hv
  obtain ⟨rfl, hsz, ⟨hP, hK, hN⟩, hE, hZ⟩ := hv
  subst hsz
  have hx := B.exec
  have hb := B.bytes
  have hr := B.returns
  have hlocks := B.notSynchronized
  have hts0 := atoms_spec (ws := w_S_first) B.pre
  have hts : ∀ w ∈ gw, w.before _ st = true := fun w h => hts0 w (List.mem_cons_of_mem _ h)
  have hown : st.vm.findClass R_S = some mm.cls := findClass_of_methodNamed B.named
  have hl := lv_entry ([.ref s0, .int y1, .int (nI ff)]) (n := 7) (Nat.le_of_ble_eq_true rfl)
  rw [lg_entry_eq]
  generalize (lg_sl ([.ref s0, .int y1, .int (nI ff)]) ++ List.replicate (7 - (lg_sl ([.ref s0, .int y1, .int (nI ff)])).length) Slot.unset).toArray = ls at hl ⊢
  have hl : lv_has ls 7 [(0, .ref s0), (1, .int y1), (2, .int (nI ff))] := hl
  refine lv_aload_n hx hb d_S_first_0 rfl (lv_at hl 0 rfl) ?_
  refine lv_iload_n hx hb d_S_first_1 rfl (lv_at hl 2 rfl) ?_
  refine va_csv (va_Run.run (va_runV (As := [.int (nI ff)]) (rest := []) ⟨hx, hb, hml, hown, hts⟩ (c_S_requireFault l dC dI cI cL s0 m0 c0 e0 q1 vr k1 k2 k3 k4 k5 cc gc oc ff hff hl1) (cwV 1 hts (gi_V kw_420 kw_422 ks_S_requireFault kw_1 gi_S_requireFault) rfl rfl rfl ⟨rfl, by decide, by decide, by decide⟩ ⟨Nat.le_of_ble_eq_true rfl, Nat.le_of_ble_eq_true rfl⟩) (wq_preVR hP hK hN [0, 1] rfl (q0 := 0) (ci := 0) rfl rfl rfl) rfl rfl hl.1 rfl (lv_room (Nat.le_of_ble_eq_true rfl)) d_S_first_2 ⟨Nat.le_of_ble_eq_true rfl, Nat.le_of_ble_eq_true rfl⟩)) (fun q1_ => ?_)
  refine lv_aload_n hx hb d_S_first_5 rfl (lv_at hl 0 rfl) ?_
  refine lv_iload_n hx hb d_S_first_6 rfl (lv_at hl 1 rfl) ?_
  exact xq_cv (cells := 0) (slots := 0) (mc := 1) (ms := 6) (MC := 1) (MS := 6) (vx_runV (As := [.int y1]) (rest := []) ⟨hx, hb, hml, hown, hts⟩ (x_S_requirePatterns l dC dI cI cL hlt st.heap.size s0 m0 c0 e0 q1 vr y1 hy) (cwV 1 hts (gi_V kw_459 kw_461 ks_S_requirePatterns kw_1 gi_S_requirePatterns) rfl rfl rfl ⟨rfl, by decide, by decide, by decide⟩ ⟨Nat.le_of_ble_eq_true rfl, Nat.le_of_ble_eq_true rfl⟩) (wq_preVX hP hK hN hE hZ [0] rfl (q0 := 0) (ci := 0) rfl rfl rfl) rfl rfl hl.1 rfl (lv_room (Nat.le_of_ble_eq_true rfl)) d_S_first_7 ⟨Nat.le_of_ble_eq_true rfl, Nat.le_of_ble_eq_true rfl⟩) hex hlocks (Nat.le_of_ble_eq_true rfl) (Nat.le_of_ble_eq_true rfl)
