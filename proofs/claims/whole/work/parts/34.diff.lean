/-! contracts of Circuit and Differences; laid by a program -/
set_option maxHeartbeats 4000000 in
set_option maxRecDepth 100000 in
theorem c_C_answerToN (l : Launch) (dC : Nat → ClassId) (dI : Nat → Nat → Nat) (cI cL : ClassId) (sz : Nat) (h0 k1 k2 k3 k4 k5 : Nat) (cc gc oc : Nat) (kd lf rg ol vv : Nat → Nat) (hk : ck cc gc oc kd lf rg ol) (pt : Nat) (hpt : pt < 2 ^ 32) : Met l y_C_answerTo w_C_answerTo ({ frames := 2, cells := 0, slots := 0, locals := 52 } : Room) (va_Pc [.ref h0, .int (nI pt), .int (-1)] (wq_W (dC, dI) classes [(h0, .inr (2, [.ref k1, .ref k2, .ref k3, .ref k4, .ref k5, .int (nI cc), .int (nI gc), .int (nI oc)])), (k1, .inl (cI, 24, .inl (fun c => nI (kd c)))), (k2, .inl (cI, 24, .inl (fun c => nI (lf c)))), (k3, .inl (cI, 24, .inl (fun c => nI (rg c)))), (k4, .inl (cI, 16, .inl (fun c => nI (ol c)))), (k5, .inl (cL, 32, .inr (.inl (fun c => lN (vv c)))))] [(cI, .int), (cL, .long)] sz)) (va_Qi (fun (r : Int32) (u : Nat → Nat) => r = nI (ci_a ol (ci_t cc kd lf rg pt none (cc + gc)) oc)) (fun (u : Nat → Nat) t => wq_B (dC, dI) classes [(cI, .int), (cL, .long)] (va_A [(h0, .inr (2, [.ref k1, .ref k2, .ref k3, .ref k4, .ref k5, .int (nI cc), .int (nI gc), .int (nI oc)])), (k1, .inl (cI, 24, .inl (fun c => nI (kd c)))), (k2, .inl (cI, 24, .inl (fun c => nI (lf c)))), (k3, .inl (cI, 24, .inl (fun c => nI (rg c)))), (k4, .inl (cI, 16, .inl (fun c => nI (ol c)))), (k5, .inl (cL, 32, .inr (.inl (fun c => lN (vv c)))))] sz) [(h0, .inr (2, [.ref k1, .ref k2, .ref k3, .ref k4, .ref k5, .int (nI cc), .int (nI gc), .int (nI oc)])), (k1, .inl (cI, 24, .inl (fun c => nI (kd c)))), (k2, .inl (cI, 24, .inl (fun c => nI (lf c)))), (k3, .inl (cI, 24, .inl (fun c => nI (rg c)))), (k4, .inl (cI, 16, .inl (fun c => nI (ol c)))), (k5, .inl (cL, 32, .inr (.inl (fun c => lN (u c)))))] t) (va_A [(h0, .inr (2, [.ref k1, .ref k2, .ref k3, .ref k4, .ref k5, .int (nI cc), .int (nI gc), .int (nI oc)])), (k1, .inl (cI, 24, .inl (fun c => nI (kd c)))), (k2, .inl (cI, 24, .inl (fun c => nI (lf c)))), (k3, .inl (cI, 24, .inl (fun c => nI (rg c)))), (k4, .inl (cI, 16, .inl (fun c => nI (ol c)))), (k5, .inl (cL, 32, .inr (.inl (fun c => lN (vv c)))))] sz)) 0 0 (va_A [(h0, .inr (2, [.ref k1, .ref k2, .ref k3, .ref k4, .ref k5, .int (nI cc), .int (nI gc), .int (nI oc)])), (k1, .inl (cI, 24, .inl (fun c => nI (kd c)))), (k2, .inl (cI, 24, .inl (fun c => nI (lf c)))), (k3, .inl (cI, 24, .inl (fun c => nI (rg c)))), (k4, .inl (cI, 16, .inl (fun c => nI (ol c)))), (k5, .inl (cL, 32, .inr (.inl (fun c => lN (vv c)))))] sz) := by
  refine Met.ofW (cc := b_C_answerTo) (maxL := 6) (ret := (Option.some Jvm.ClassFile.FieldType.int)) (by decide) rfl ?_
  intro pg en st mm ar bw me co s₁ B hml hv
  obtain ⟨rfl, hsz, hP, hK, hD0, hN⟩ := hv
  have hx := B.exec
  have hb := B.bytes
  have hr := B.returns
  have hlocks := B.notSynchronized
  have hts0 := atoms_spec (ws := w_C_answerTo) B.pre
  have hts : ∀ w ∈ gw, w.before _ st = true := fun w h => hts0 w (List.mem_cons_of_mem _ h)
  have hown : st.vm.findClass R_C = some mm.cls := findClass_of_methodNamed B.named
  subst hsz
  have hD := hD0.self (sz := st.heap.size)
  generalize hAe : va_A [(h0, .inr (2, [.ref k1, .ref k2, .ref k3, .ref k4, .ref k5, .int (nI cc), .int (nI gc), .int (nI oc)])), (k1, .inl (cI, 24, .inl (fun c => nI (kd c)))), (k2, .inl (cI, 24, .inl (fun c => nI (lf c)))), (k3, .inl (cI, 24, .inl (fun c => nI (rg c)))), (k4, .inl (cI, 16, .inl (fun c => nI (ol c)))), (k5, .inl (cL, 32, .inr (.inl (fun c => lN (vv c)))))] st.heap.size = A at hD ⊢
  have hA : ∀ q : Nat, st.heap.size ≤ q → A q := fun q h => by rw [← hAe]; exact Or.inr h
  have hS : va_S A st.heap st.heap [] := va_S.rf
  have hl := lv_entry ([.ref h0, .int (nI pt), .int (-1)]) (n := 6) (Nat.le_of_ble_eq_true rfl)
  rw [lg_entry_eq]
  generalize (lg_sl ([.ref h0, .int (nI pt), .int (-1)]) ++ List.replicate (6 - (lg_sl ([.ref h0, .int (nI pt), .int (-1)])).length) Slot.unset).toArray = ls at hl ⊢
  have hl : lv_has ls 6 [(0, .ref h0), (1, .int (nI pt)), (2, .int (-1))] := hl
  have h1 := hk.1
  have h2 := hk.2.1
  have h3 := hk.2.2.1
  refine lv_aload_n hx hb d_C_answerTo_0 rfl (lv_at hl 0 rfl) ?_
  refine lv_iload_n hx hb d_C_answerTo_1 rfl (lv_at hl 1 rfl) ?_
  refine lv_iload_n hx hb d_C_answerTo_2 rfl (lv_at hl 2 rfl) ?_
  refine lv_iconst (v := (-1)) hx hb d_C_answerTo_3 (by decide) ?_
  refine lv_icmp_eq (tgt := 11) hx hb d_C_answerTo_4 (by decide) (fun _ => ?_) (fun hc => absurd hc (fun z => z rfl))
  refine lv_iconst (v := nI 0) hx hb d_C_answerTo_11 (by decide) ?_
  refine wq_v (wr := [(k4, .inl (cI, 16, .inl (fun c => nI (ol c))))]) (va_runV (As := [.int (nI pt), .int (nI 0)]) (rest := []) ⟨hx, hb, hml, hown, hts⟩ (c_C_settleN l dC dI cI cL st.heap.size h0 k1 k2 k3 k4 k5 cc gc oc kd lf rg ol vv hk pt hpt) (cwV 2 hts (gi_V kw_433 kw_435 ks_C_settle kw_3 gi_C_settle) rfl rfl rfl ⟨rfl, by decide, by decide, by decide⟩ ⟨Nat.le_of_ble_eq_true rfl, Nat.le_of_ble_eq_true rfl⟩) (wq_preVW hP hD hK hN [0, 1, 2, 3, 5] rfl rfl (q0 := 0) (ci := 2) rfl rfl rfl) rfl rfl hl.1 rfl (lv_room (Nat.le_of_ble_eq_true rfl)) d_C_answerTo_12 ⟨Nat.le_of_ble_eq_true rfl, Nat.le_of_ble_eq_true rfl⟩) hP hD hS hA [0, 1, 2, 3, 5] [4] rfl rfl rfl (by decide) (fun u H locs hR hP hD hS hz => ?_)
  have hP : va_P (dC, dI) classes [(k4, .inl (cI, 16, .inl (fun c => nI (ol c)))), (h0, .inr (2, [.ref k1, .ref k2, .ref k3, .ref k4, .ref k5, .int (nI cc), .int (nI gc), .int (nI oc)])), (k1, .inl (cI, 24, .inl (fun c => nI (kd c)))), (k2, .inl (cI, 24, .inl (fun c => nI (lf c)))), (k3, .inl (cI, 24, .inl (fun c => nI (rg c)))), (k5, .inl (cL, 32, .inr (.inl (fun c => lN (u c)))))] H := hP
  have hD : va_D A [(k4, .inl (cI, 16, .inl (fun c => nI (ol c)))), (h0, .inr (2, [.ref k1, .ref k2, .ref k3, .ref k4, .ref k5, .int (nI cc), .int (nI gc), .int (nI oc)])), (k1, .inl (cI, 24, .inl (fun c => nI (kd c)))), (k2, .inl (cI, 24, .inl (fun c => nI (lf c)))), (k3, .inl (cI, 24, .inl (fun c => nI (rg c)))), (k5, .inl (cL, 32, .inr (.inl (fun c => lN (u c)))))] := hD
  refine lv_iload_n hx hb d_C_answerTo_15 rfl (lv_at hl 2 rfl) ?_
  refine lv_iconst (v := (-1)) hx hb d_C_answerTo_16 (by decide) ?_
  refine lv_icmp_ne (tgt := 24) hx hb d_C_answerTo_17 (by decide) (fun hc => absurd hc (fun z => z rfl)) (fun _ => ?_)
  refine lv_iconst (v := nI 0) hx hb d_C_answerTo_20 (by decide) ?_
  refine lv_goto (tgt := 25) hx hb d_C_answerTo_21 (by decide) ?_
  refine lv_istore_n (lv' := [(3, .int (nI 0)), (0, .ref h0), (1, .int (nI pt)), (2, .int (-1))]) hx hb d_C_answerTo_25 rfl hl (by decide) rfl (fun ls hl => ?_)
  refine lv_iconst (v := nI 0) hx hb d_C_answerTo_26 (by decide) ?_
  refine lv_istore (lv' := [(4, .int (nI 0)), (3, .int (nI 0)), (0, .ref h0), (1, .int (nI pt)), (2, .int (-1))]) hx hb d_C_answerTo_27 hl (by decide) rfl (fun ls hl => ?_)
  refine lv_iconst (v := nI 0) hx hb d_C_answerTo_29 (by decide) ?_
  refine lv_istore (lv' := [(5, .int (nI 0)), (4, .int (nI 0)), (3, .int (nI 0)), (0, .ref h0), (1, .int (nI pt)), (2, .int (-1))]) hx hb d_C_answerTo_30 hl (by decide) rfl (fun ls hl => ?_)
  have loop : ∀ (j i : Nat), j + i = oc → ∀ (ls : Array Slot), lv_has ls 6 [(0, .ref h0), (3, .int (nI 0)), (4, .int (nI (ci_a ol (ci_t cc kd lf rg pt none (cc + gc)) i))), (5, .int (nI i))] → W pg l en (headSpec w_C_answerTo ({ frames := 2, cells := 0, slots := 0, locals := 52 } : Room)).room st mm ([.ref h0, .int (nI pt), .int (-1)] : List Value).toArray bw me co H locs 0 0 (MQ bw (va_Qi (fun (r : Int32) (u : Nat → Nat) => r = nI (ci_a ol (ci_t cc kd lf rg pt none (cc + gc)) oc)) (fun (u : Nat → Nat) t => wq_B (dC, dI) classes [(cI, .int), (cL, .long)] A [(h0, .inr (2, [.ref k1, .ref k2, .ref k3, .ref k4, .ref k5, .int (nI cc), .int (nI gc), .int (nI oc)])), (k1, .inl (cI, 24, .inl (fun c => nI (kd c)))), (k2, .inl (cI, 24, .inl (fun c => nI (lf c)))), (k3, .inl (cI, 24, .inl (fun c => nI (rg c)))), (k4, .inl (cI, 16, .inl (fun c => nI (ol c)))), (k5, .inl (cL, 32, .inr (.inl (fun c => lN (u c)))))] t) A) ([.ref h0, .int (nI pt), .int (-1)] : List Value).toArray st 0 0 A) (F0 mm 32 ls []) := by
    intro j
    induction j with
    | zero =>
      intro i hj ls hl
      refine lv_iload hx hb d_C_answerTo_32 (lv_at hl 3 rfl) ?_
      refine lv_aload_n hx hb d_C_answerTo_34 rfl (lv_at hl 0 rfl) ?_
      refine va_get (D := (dC, dI)) (ci := 2) (v := .int (nI oc)) (C := R_C) (T := F_C) (N := 8) hx hb hts in_C hown hK hP 1 rfl rfl 7 (by decide) (hts _ kw_58) (fun _ h9 => h9) rfl d_C_answerTo_35 ?_
      refine lv_icmp_ge (tgt := 66) hx hb d_C_answerTo_38 (by decide) (fun hc => ?_) (fun hc => ?_)
      · have hi : oc = i := by omega
        subst hi
        refine lv_iload hx hb d_C_answerTo_66 (lv_at hl 2 rfl) ?_
        have hP := hP.sub (ws' := [(h0, .inr (2, [.ref k1, .ref k2, .ref k3, .ref k4, .ref k5, .int (nI cc), .int (nI gc), .int (nI oc)])), (k1, .inl (cI, 24, .inl (fun c => nI (kd c)))), (k2, .inl (cI, 24, .inl (fun c => nI (lf c)))), (k3, .inl (cI, 24, .inl (fun c => nI (rg c)))), (k4, .inl (cI, 16, .inl (fun c => nI (ol c)))), (k5, .inl (cL, 32, .inr (.inl (fun c => lN (u c)))))]) [1, 2, 3, 4, 0, 5] rfl
        have hD := hD.sub (ws' := [(h0, .inr (2, [.ref k1, .ref k2, .ref k3, .ref k4, .ref k5, .int (nI cc), .int (nI gc), .int (nI oc)])), (k1, .inl (cI, 24, .inl (fun c => nI (kd c)))), (k2, .inl (cI, 24, .inl (fun c => nI (lf c)))), (k3, .inl (cI, 24, .inl (fun c => nI (rg c)))), (k4, .inl (cI, 16, .inl (fun c => nI (ol c)))), (k5, .inl (cL, 32, .inr (.inl (fun c => lN (u c)))))]) [1, 2, 3, 4, 0, 5] (by decide) rfl
        exact W.iret (v := nI (ci_a ol (ci_t cc kd lf rg pt none (cc + gc)) oc)) hx hb hr (fun t ht hW => ⟨⟨nI (ci_a ol (ci_t cc kd lf rg pt none (cc + gc)) oc), u, rfl, rfl, by rw [ht]; exact hP, va_K.moved hW.alike hK, hD⟩, hS.F ht⟩) hS.2.2 d_C_answerTo_68
      · exact absurd ((nI_leI (by omega) (by omega)).mpr (by omega)) hc
    | succ j ih =>
      intro i hj ls hl
      have hol := hk.2.2.2.2 i (by omega)
      obtain ⟨hu, hbit⟩ := hR (ol i) hol
      have hF : (u (ol i) / 2 ^ 0 % 2 = 1) = ((ci_t cc kd lf rg pt none (cc + gc)) (ol i) = true) := by rw [← hbit 0 (by omega), tb_div]
      refine lv_iload hx hb d_C_answerTo_32 (lv_at hl 3 rfl) ?_
      refine lv_aload_n hx hb d_C_answerTo_34 rfl (lv_at hl 0 rfl) ?_
      refine va_get (D := (dC, dI)) (ci := 2) (v := .int (nI oc)) (C := R_C) (T := F_C) (N := 8) hx hb hts in_C hown hK hP 1 rfl rfl 7 (by decide) (hts _ kw_58) (fun _ h9 => h9) rfl d_C_answerTo_35 ?_
      refine lv_icmp_ge (tgt := 66) hx hb d_C_answerTo_38 (by decide) (fun hc => ?_) (fun hc => ?_)
      · exact absurd ((nI_leI (by omega) (by omega)).mp hc) (by omega)
      · refine lv_iload hx hb d_C_answerTo_41 (lv_at hl 2 rfl) ?_
        refine lv_aload_n hx hb d_C_answerTo_43 rfl (lv_at hl 0 rfl) ?_
        refine lv_iload hx hb d_C_answerTo_44 (lv_at hl 3 rfl) ?_
        refine vp_callSl (va_Run.run (va_runV (As := [.int (nI i)]) (rest := [.int (nI (ci_a ol (ci_t cc kd lf rg pt none (cc + gc)) i))]) ⟨hx, hb, hml, hown, hts⟩ (c_C_valuesOfOutput l dC dI cI cL h0 k1 k2 k3 k4 k5 cc gc oc kd lf rg ol u hk i (by omega)) (cwV 1 hts (gi_V kw_448 kw_450 ks_C_valuesOfOutput kw_3 gi_C_valuesOfOutput) rfl rfl rfl ⟨rfl, by decide, by decide, by decide⟩ ⟨Nat.le_of_ble_eq_true rfl, Nat.le_of_ble_eq_true rfl⟩) (wq_preVR hP hK hN [1, 0, 5] rfl (q0 := 1) (ci := 2) rfl rfl rfl) rfl rfl hl.1 rfl (lv_room (Nat.le_of_ble_eq_true rfl)) d_C_answerTo_46 ⟨Nat.le_of_ble_eq_true rfl, Nat.le_of_ble_eq_true rfl⟩)) (fun r hq => ?_)
        subst hq
        refine lv_iload_n hx hb d_C_answerTo_49 rfl (lv_at hl 1 rfl) ?_
        refine lv_lushr (v := lN ((u (ol i)) / 2 ^ 0)) hx hb d_C_answerTo_50 (wb_shr hu (by omega)) ?_
        refine lv_lconst (v := lN 1) hx hb d_C_answerTo_51 (by decide) ?_
        refine lv_land hx hb d_C_answerTo_52 ?_
        refine lv_topl (nm_r (show _ = lN ((u (ol i)) / 2 ^ 0 % 2) from g1_and (show (u (ol i)) / 2 ^ 0 < 2 ^ 64 from Nat.lt_of_le_of_lt (Nat.div_le_self _ _) hu)) ?_)
        refine lv_l2i (v := nI (u (ol i) / 2 ^ 0 % 2)) hx hb d_C_answerTo_53 (lN_i _) ?_
        refine lv_iload hx hb d_C_answerTo_54 (lv_at hl 3 rfl) ?_
        refine lv_ishl hx hb d_C_answerTo_56 ?_
        refine lv_ior hx hb d_C_answerTo_57 ?_
        refine lv_topi (nm_r (show _ = nI (ci_a ol (ci_t cc kd lf rg pt none (cc + gc)) (i + 1)) from an_turn (by omega) (by omega) hF) ?_)
        refine lv_istore (lv' := [(4, .int (nI (ci_a ol (ci_t cc kd lf rg pt none (cc + gc)) (i + 1)))), (0, .ref h0), (3, .int (nI 0)), (5, .int (nI i))]) hx hb d_C_answerTo_58 hl (by decide) rfl (fun ls hl => ?_)
        refine lv_iinc (v := nI (i + 1)) (lv' := [(5, .int (nI (i + 1))), (4, .int (nI (ci_a ol (ci_t cc kd lf rg pt none (cc + gc)) (i + 1)))), (0, .ref h0), (3, .int (nI 0))]) hx hb d_C_answerTo_60 hl (k := 3) rfl (nI_1 i) (by decide) rfl (fun ls hl => ?_)
        refine lv_goto (tgt := 32) hx hb d_C_answerTo_63 (by decide) ?_
        have hl := lv_sub (l' := [(0, .ref h0), (3, .int (nI 0)), (4, .int (nI (ci_a ol (ci_t cc kd lf rg pt none (cc + gc)) (i + 1)))), (5, .int (nI (i + 1)))]) hl [2, 3, 1, 0] rfl
        exact ih (i + 1) (by omega) ls hl
  have hl := lv_sub (l' := [(0, .ref h0), (3, .int (nI 0)), (4, .int (nI 0)), (5, .int (nI 0))]) hl [3, 2, 1, 0] rfl
  exact loop oc 0 rfl ls hl
set_option maxHeartbeats 4000000 in
set_option maxRecDepth 100000 in
theorem c_C_answerToF (l : Launch) (dC : Nat → ClassId) (dI : Nat → Nat → Nat) (cI cL : ClassId) (sz : Nat) (h0 k1 k2 k3 k4 k5 : Nat) (cc gc oc : Nat) (kd lf rg ol vv : Nat → Nat) (hk : ck cc gc oc kd lf rg ol) (pt : Nat) (hpt : pt < 2 ^ 32) (ff : Nat) (hff : ff < 64) : Met l y_C_answerTo w_C_answerTo ({ frames := 2, cells := 0, slots := 0, locals := 52 } : Room) (va_Pc [.ref h0, .int (nI pt), .int (nI ff)] (wq_W (dC, dI) classes [(h0, .inr (2, [.ref k1, .ref k2, .ref k3, .ref k4, .ref k5, .int (nI cc), .int (nI gc), .int (nI oc)])), (k1, .inl (cI, 24, .inl (fun c => nI (kd c)))), (k2, .inl (cI, 24, .inl (fun c => nI (lf c)))), (k3, .inl (cI, 24, .inl (fun c => nI (rg c)))), (k4, .inl (cI, 16, .inl (fun c => nI (ol c)))), (k5, .inl (cL, 32, .inr (.inl (fun c => lN (vv c)))))] [(cI, .int), (cL, .long)] sz)) (va_Qi (fun (r : Int32) (u : Nat → Nat) => r = nI (ci_a ol (ci_t cc kd lf rg pt (some ff) (cc + gc)) oc)) (fun (u : Nat → Nat) t => wq_B (dC, dI) classes [(cI, .int), (cL, .long)] (va_A [(h0, .inr (2, [.ref k1, .ref k2, .ref k3, .ref k4, .ref k5, .int (nI cc), .int (nI gc), .int (nI oc)])), (k1, .inl (cI, 24, .inl (fun c => nI (kd c)))), (k2, .inl (cI, 24, .inl (fun c => nI (lf c)))), (k3, .inl (cI, 24, .inl (fun c => nI (rg c)))), (k4, .inl (cI, 16, .inl (fun c => nI (ol c)))), (k5, .inl (cL, 32, .inr (.inl (fun c => lN (vv c)))))] sz) [(h0, .inr (2, [.ref k1, .ref k2, .ref k3, .ref k4, .ref k5, .int (nI cc), .int (nI gc), .int (nI oc)])), (k1, .inl (cI, 24, .inl (fun c => nI (kd c)))), (k2, .inl (cI, 24, .inl (fun c => nI (lf c)))), (k3, .inl (cI, 24, .inl (fun c => nI (rg c)))), (k4, .inl (cI, 16, .inl (fun c => nI (ol c)))), (k5, .inl (cL, 32, .inr (.inl (fun c => lN (u c)))))] t) (va_A [(h0, .inr (2, [.ref k1, .ref k2, .ref k3, .ref k4, .ref k5, .int (nI cc), .int (nI gc), .int (nI oc)])), (k1, .inl (cI, 24, .inl (fun c => nI (kd c)))), (k2, .inl (cI, 24, .inl (fun c => nI (lf c)))), (k3, .inl (cI, 24, .inl (fun c => nI (rg c)))), (k4, .inl (cI, 16, .inl (fun c => nI (ol c)))), (k5, .inl (cL, 32, .inr (.inl (fun c => lN (vv c)))))] sz)) 0 0 (va_A [(h0, .inr (2, [.ref k1, .ref k2, .ref k3, .ref k4, .ref k5, .int (nI cc), .int (nI gc), .int (nI oc)])), (k1, .inl (cI, 24, .inl (fun c => nI (kd c)))), (k2, .inl (cI, 24, .inl (fun c => nI (lf c)))), (k3, .inl (cI, 24, .inl (fun c => nI (rg c)))), (k4, .inl (cI, 16, .inl (fun c => nI (ol c)))), (k5, .inl (cL, 32, .inr (.inl (fun c => lN (vv c)))))] sz) := by
  refine Met.ofW (cc := b_C_answerTo) (maxL := 6) (ret := (Option.some Jvm.ClassFile.FieldType.int)) (by decide) rfl ?_
  intro pg en st mm ar bw me co s₁ B hml hv
  obtain ⟨rfl, hsz, hP, hK, hD0, hN⟩ := hv
  have hx := B.exec
  have hb := B.bytes
  have hr := B.returns
  have hlocks := B.notSynchronized
  have hts0 := atoms_spec (ws := w_C_answerTo) B.pre
  have hts : ∀ w ∈ gw, w.before _ st = true := fun w h => hts0 w (List.mem_cons_of_mem _ h)
  have hown : st.vm.findClass R_C = some mm.cls := findClass_of_methodNamed B.named
  subst hsz
  have hD := hD0.self (sz := st.heap.size)
  generalize hAe : va_A [(h0, .inr (2, [.ref k1, .ref k2, .ref k3, .ref k4, .ref k5, .int (nI cc), .int (nI gc), .int (nI oc)])), (k1, .inl (cI, 24, .inl (fun c => nI (kd c)))), (k2, .inl (cI, 24, .inl (fun c => nI (lf c)))), (k3, .inl (cI, 24, .inl (fun c => nI (rg c)))), (k4, .inl (cI, 16, .inl (fun c => nI (ol c)))), (k5, .inl (cL, 32, .inr (.inl (fun c => lN (vv c)))))] st.heap.size = A at hD ⊢
  have hA : ∀ q : Nat, st.heap.size ≤ q → A q := fun q h => by rw [← hAe]; exact Or.inr h
  have hS : va_S A st.heap st.heap [] := va_S.rf
  have hl := lv_entry ([.ref h0, .int (nI pt), .int (nI ff)]) (n := 6) (Nat.le_of_ble_eq_true rfl)
  rw [lg_entry_eq]
  generalize (lg_sl ([.ref h0, .int (nI pt), .int (nI ff)]) ++ List.replicate (6 - (lg_sl ([.ref h0, .int (nI pt), .int (nI ff)])).length) Slot.unset).toArray = ls at hl ⊢
  have hl : lv_has ls 6 [(0, .ref h0), (1, .int (nI pt)), (2, .int (nI ff))] := hl
  have h1 := hk.1
  have h2 := hk.2.1
  have h3 := hk.2.2.1
  refine lv_aload_n hx hb d_C_answerTo_0 rfl (lv_at hl 0 rfl) ?_
  refine lv_iload_n hx hb d_C_answerTo_1 rfl (lv_at hl 1 rfl) ?_
  refine lv_iload_n hx hb d_C_answerTo_2 rfl (lv_at hl 2 rfl) ?_
  refine lv_iconst (v := (-1)) hx hb d_C_answerTo_3 (by decide) ?_
  have hfm := (by decide +kernel : ∀ n, n < 64 → nI n ≠ -1) ff hff
  refine lv_icmp_eq (tgt := 11) hx hb d_C_answerTo_4 (by decide) (fun hc => absurd hc (hfm)) (fun _ => ?_)
  refine lv_iconst (v := nI 1) hx hb d_C_answerTo_7 (by decide) ?_
  refine lv_goto (tgt := 12) hx hb d_C_answerTo_8 (by decide) ?_
  refine wq_v (wr := [(k4, .inl (cI, 16, .inl (fun c => nI (ol c))))]) (va_runV (As := [.int (nI pt), .int (nI 1)]) (rest := []) ⟨hx, hb, hml, hown, hts⟩ (c_C_settleF l dC dI cI cL st.heap.size h0 k1 k2 k3 k4 k5 cc gc oc kd lf rg ol vv hk pt hpt) (cwV 2 hts (gi_V kw_433 kw_435 ks_C_settle kw_3 gi_C_settle) rfl rfl rfl ⟨rfl, by decide, by decide, by decide⟩ ⟨Nat.le_of_ble_eq_true rfl, Nat.le_of_ble_eq_true rfl⟩) (wq_preVW hP hD hK hN [0, 1, 2, 3, 5] rfl rfl (q0 := 0) (ci := 2) rfl rfl rfl) rfl rfl hl.1 rfl (lv_room (Nat.le_of_ble_eq_true rfl)) d_C_answerTo_12 ⟨Nat.le_of_ble_eq_true rfl, Nat.le_of_ble_eq_true rfl⟩) hP hD hS hA [0, 1, 2, 3, 5] [4] rfl rfl rfl (by decide) (fun u H locs hR hP hD hS hz => ?_)
  have hP : va_P (dC, dI) classes [(k4, .inl (cI, 16, .inl (fun c => nI (ol c)))), (h0, .inr (2, [.ref k1, .ref k2, .ref k3, .ref k4, .ref k5, .int (nI cc), .int (nI gc), .int (nI oc)])), (k1, .inl (cI, 24, .inl (fun c => nI (kd c)))), (k2, .inl (cI, 24, .inl (fun c => nI (lf c)))), (k3, .inl (cI, 24, .inl (fun c => nI (rg c)))), (k5, .inl (cL, 32, .inr (.inl (fun c => lN (u c)))))] H := hP
  have hD : va_D A [(k4, .inl (cI, 16, .inl (fun c => nI (ol c)))), (h0, .inr (2, [.ref k1, .ref k2, .ref k3, .ref k4, .ref k5, .int (nI cc), .int (nI gc), .int (nI oc)])), (k1, .inl (cI, 24, .inl (fun c => nI (kd c)))), (k2, .inl (cI, 24, .inl (fun c => nI (lf c)))), (k3, .inl (cI, 24, .inl (fun c => nI (rg c)))), (k5, .inl (cL, 32, .inr (.inl (fun c => lN (u c)))))] := hD
  refine lv_iload_n hx hb d_C_answerTo_15 rfl (lv_at hl 2 rfl) ?_
  refine lv_iconst (v := (-1)) hx hb d_C_answerTo_16 (by decide) ?_
  refine lv_icmp_ne (tgt := 24) hx hb d_C_answerTo_17 (by decide) (fun _ => ?_) (fun hc => absurd hc (hfm))
  refine lv_iload_n hx hb d_C_answerTo_24 rfl (lv_at hl 2 rfl) ?_
  refine lv_istore_n (lv' := [(3, .int (nI ff)), (0, .ref h0), (1, .int (nI pt)), (2, .int (nI ff))]) hx hb d_C_answerTo_25 rfl hl (by decide) rfl (fun ls hl => ?_)
  refine lv_iconst (v := nI 0) hx hb d_C_answerTo_26 (by decide) ?_
  refine lv_istore (lv' := [(4, .int (nI 0)), (3, .int (nI ff)), (0, .ref h0), (1, .int (nI pt)), (2, .int (nI ff))]) hx hb d_C_answerTo_27 hl (by decide) rfl (fun ls hl => ?_)
  refine lv_iconst (v := nI 0) hx hb d_C_answerTo_29 (by decide) ?_
  refine lv_istore (lv' := [(5, .int (nI 0)), (4, .int (nI 0)), (3, .int (nI ff)), (0, .ref h0), (1, .int (nI pt)), (2, .int (nI ff))]) hx hb d_C_answerTo_30 hl (by decide) rfl (fun ls hl => ?_)
  have loop : ∀ (j i : Nat), j + i = oc → ∀ (ls : Array Slot), lv_has ls 6 [(0, .ref h0), (3, .int (nI ff)), (4, .int (nI (ci_a ol (ci_t cc kd lf rg pt (some ff) (cc + gc)) i))), (5, .int (nI i))] → W pg l en (headSpec w_C_answerTo ({ frames := 2, cells := 0, slots := 0, locals := 52 } : Room)).room st mm ([.ref h0, .int (nI pt), .int (nI ff)] : List Value).toArray bw me co H locs 0 0 (MQ bw (va_Qi (fun (r : Int32) (u : Nat → Nat) => r = nI (ci_a ol (ci_t cc kd lf rg pt (some ff) (cc + gc)) oc)) (fun (u : Nat → Nat) t => wq_B (dC, dI) classes [(cI, .int), (cL, .long)] A [(h0, .inr (2, [.ref k1, .ref k2, .ref k3, .ref k4, .ref k5, .int (nI cc), .int (nI gc), .int (nI oc)])), (k1, .inl (cI, 24, .inl (fun c => nI (kd c)))), (k2, .inl (cI, 24, .inl (fun c => nI (lf c)))), (k3, .inl (cI, 24, .inl (fun c => nI (rg c)))), (k4, .inl (cI, 16, .inl (fun c => nI (ol c)))), (k5, .inl (cL, 32, .inr (.inl (fun c => lN (u c)))))] t) A) ([.ref h0, .int (nI pt), .int (nI ff)] : List Value).toArray st 0 0 A) (F0 mm 32 ls []) := by
    intro j
    induction j with
    | zero =>
      intro i hj ls hl
      refine lv_iload hx hb d_C_answerTo_32 (lv_at hl 3 rfl) ?_
      refine lv_aload_n hx hb d_C_answerTo_34 rfl (lv_at hl 0 rfl) ?_
      refine va_get (D := (dC, dI)) (ci := 2) (v := .int (nI oc)) (C := R_C) (T := F_C) (N := 8) hx hb hts in_C hown hK hP 1 rfl rfl 7 (by decide) (hts _ kw_58) (fun _ h9 => h9) rfl d_C_answerTo_35 ?_
      refine lv_icmp_ge (tgt := 66) hx hb d_C_answerTo_38 (by decide) (fun hc => ?_) (fun hc => ?_)
      · have hi : oc = i := by omega
        subst hi
        refine lv_iload hx hb d_C_answerTo_66 (lv_at hl 2 rfl) ?_
        have hP := hP.sub (ws' := [(h0, .inr (2, [.ref k1, .ref k2, .ref k3, .ref k4, .ref k5, .int (nI cc), .int (nI gc), .int (nI oc)])), (k1, .inl (cI, 24, .inl (fun c => nI (kd c)))), (k2, .inl (cI, 24, .inl (fun c => nI (lf c)))), (k3, .inl (cI, 24, .inl (fun c => nI (rg c)))), (k4, .inl (cI, 16, .inl (fun c => nI (ol c)))), (k5, .inl (cL, 32, .inr (.inl (fun c => lN (u c)))))]) [1, 2, 3, 4, 0, 5] rfl
        have hD := hD.sub (ws' := [(h0, .inr (2, [.ref k1, .ref k2, .ref k3, .ref k4, .ref k5, .int (nI cc), .int (nI gc), .int (nI oc)])), (k1, .inl (cI, 24, .inl (fun c => nI (kd c)))), (k2, .inl (cI, 24, .inl (fun c => nI (lf c)))), (k3, .inl (cI, 24, .inl (fun c => nI (rg c)))), (k4, .inl (cI, 16, .inl (fun c => nI (ol c)))), (k5, .inl (cL, 32, .inr (.inl (fun c => lN (u c)))))]) [1, 2, 3, 4, 0, 5] (by decide) rfl
        exact W.iret (v := nI (ci_a ol (ci_t cc kd lf rg pt (some ff) (cc + gc)) oc)) hx hb hr (fun t ht hW => ⟨⟨nI (ci_a ol (ci_t cc kd lf rg pt (some ff) (cc + gc)) oc), u, rfl, rfl, by rw [ht]; exact hP, va_K.moved hW.alike hK, hD⟩, hS.F ht⟩) hS.2.2 d_C_answerTo_68
      · exact absurd ((nI_leI (by omega) (by omega)).mpr (by omega)) hc
    | succ j ih =>
      intro i hj ls hl
      have hol := hk.2.2.2.2 i (by omega)
      obtain ⟨hu, hbit⟩ := hR (ol i) hol
      have hF : (u (ol i) / 2 ^ ff % 2 = 1) = ((ci_t cc kd lf rg pt (some ff) (cc + gc)) (ol i) = true) := by rw [← hbit ff (by omega), tb_div]
      refine lv_iload hx hb d_C_answerTo_32 (lv_at hl 3 rfl) ?_
      refine lv_aload_n hx hb d_C_answerTo_34 rfl (lv_at hl 0 rfl) ?_
      refine va_get (D := (dC, dI)) (ci := 2) (v := .int (nI oc)) (C := R_C) (T := F_C) (N := 8) hx hb hts in_C hown hK hP 1 rfl rfl 7 (by decide) (hts _ kw_58) (fun _ h9 => h9) rfl d_C_answerTo_35 ?_
      refine lv_icmp_ge (tgt := 66) hx hb d_C_answerTo_38 (by decide) (fun hc => ?_) (fun hc => ?_)
      · exact absurd ((nI_leI (by omega) (by omega)).mp hc) (by omega)
      · refine lv_iload hx hb d_C_answerTo_41 (lv_at hl 2 rfl) ?_
        refine lv_aload_n hx hb d_C_answerTo_43 rfl (lv_at hl 0 rfl) ?_
        refine lv_iload hx hb d_C_answerTo_44 (lv_at hl 3 rfl) ?_
        refine vp_callSl (va_Run.run (va_runV (As := [.int (nI i)]) (rest := [.int (nI (ci_a ol (ci_t cc kd lf rg pt (some ff) (cc + gc)) i))]) ⟨hx, hb, hml, hown, hts⟩ (c_C_valuesOfOutput l dC dI cI cL h0 k1 k2 k3 k4 k5 cc gc oc kd lf rg ol u hk i (by omega)) (cwV 1 hts (gi_V kw_448 kw_450 ks_C_valuesOfOutput kw_3 gi_C_valuesOfOutput) rfl rfl rfl ⟨rfl, by decide, by decide, by decide⟩ ⟨Nat.le_of_ble_eq_true rfl, Nat.le_of_ble_eq_true rfl⟩) (wq_preVR hP hK hN [1, 0, 5] rfl (q0 := 1) (ci := 2) rfl rfl rfl) rfl rfl hl.1 rfl (lv_room (Nat.le_of_ble_eq_true rfl)) d_C_answerTo_46 ⟨Nat.le_of_ble_eq_true rfl, Nat.le_of_ble_eq_true rfl⟩)) (fun r hq => ?_)
        subst hq
        refine lv_iload_n hx hb d_C_answerTo_49 rfl (lv_at hl 1 rfl) ?_
        refine lv_lushr (v := lN ((u (ol i)) / 2 ^ ff)) hx hb d_C_answerTo_50 (wb_shr hu (by omega)) ?_
        refine lv_lconst (v := lN 1) hx hb d_C_answerTo_51 (by decide) ?_
        refine lv_land hx hb d_C_answerTo_52 ?_
        refine lv_topl (nm_r (show _ = lN ((u (ol i)) / 2 ^ ff % 2) from g1_and (show (u (ol i)) / 2 ^ ff < 2 ^ 64 from Nat.lt_of_le_of_lt (Nat.div_le_self _ _) hu)) ?_)
        refine lv_l2i (v := nI (u (ol i) / 2 ^ ff % 2)) hx hb d_C_answerTo_53 (lN_i _) ?_
        refine lv_iload hx hb d_C_answerTo_54 (lv_at hl 3 rfl) ?_
        refine lv_ishl hx hb d_C_answerTo_56 ?_
        refine lv_ior hx hb d_C_answerTo_57 ?_
        refine lv_topi (nm_r (show _ = nI (ci_a ol (ci_t cc kd lf rg pt (some ff) (cc + gc)) (i + 1)) from an_turn (by omega) (by omega) hF) ?_)
        refine lv_istore (lv' := [(4, .int (nI (ci_a ol (ci_t cc kd lf rg pt (some ff) (cc + gc)) (i + 1)))), (0, .ref h0), (3, .int (nI ff)), (5, .int (nI i))]) hx hb d_C_answerTo_58 hl (by decide) rfl (fun ls hl => ?_)
        refine lv_iinc (v := nI (i + 1)) (lv' := [(5, .int (nI (i + 1))), (4, .int (nI (ci_a ol (ci_t cc kd lf rg pt (some ff) (cc + gc)) (i + 1)))), (0, .ref h0), (3, .int (nI ff))]) hx hb d_C_answerTo_60 hl (k := 3) rfl (nI_1 i) (by decide) rfl (fun ls hl => ?_)
        refine lv_goto (tgt := 32) hx hb d_C_answerTo_63 (by decide) ?_
        have hl := lv_sub (l' := [(0, .ref h0), (3, .int (nI ff)), (4, .int (nI (ci_a ol (ci_t cc kd lf rg pt (some ff) (cc + gc)) (i + 1)))), (5, .int (nI (i + 1)))]) hl [2, 3, 1, 0] rfl
        exact ih (i + 1) (by omega) ls hl
  have hl := lv_sub (l' := [(0, .ref h0), (3, .int (nI ff)), (4, .int (nI 0)), (5, .int (nI 0))]) hl [3, 2, 1, 0] rfl
  exact loop oc 0 rfl ls hl
set_option maxHeartbeats 4000000 in
set_option maxRecDepth 100000 in
theorem c_C_restart (l : Launch) (dC : Nat → ClassId) (dI : Nat → Nat → Nat) (cI cL : ClassId) (sz : Nat) (h0 k1 k2 k3 k4 k5 : Nat) (cc gc oc c2 : Nat) : Met l y_C_restart w_C_restart ({ frames := 0, cells := 0, slots := 0, locals := 0 } : Room) (va_Pc [.ref h0, .int (nI c2)] (wq_W (dC, dI) classes [(h0, .inr (2, [.ref k1, .ref k2, .ref k3, .ref k4, .ref k5, .int (nI cc), .int (nI gc), .int (nI oc)]))] [(cI, .int), (cL, .long)] sz)) (va_Qv (fun (u : Unit) => True) (fun (u : Unit) t => wq_B (dC, dI) classes [(cI, .int), (cL, .long)] (va_A [(h0, .inr (2, [.ref k1, .ref k2, .ref k3, .ref k4, .ref k5, .int (nI cc), .int (nI gc), .int (nI oc)]))] sz) [(h0, .inr (2, [.ref k1, .ref k2, .ref k3, .ref k4, .ref k5, .int (nI c2), .int (nI 0), .int (nI 0)]))] t) (va_A [(h0, .inr (2, [.ref k1, .ref k2, .ref k3, .ref k4, .ref k5, .int (nI cc), .int (nI gc), .int (nI oc)]))] sz)) 0 0 (va_A [(h0, .inr (2, [.ref k1, .ref k2, .ref k3, .ref k4, .ref k5, .int (nI cc), .int (nI gc), .int (nI oc)]))] sz) := by
  refine Met.ofW (cc := b_C_restart) (maxL := 2) (ret := (Option.none : Option Jvm.ClassFile.FieldType)) (by decide) rfl ?_
  intro pg en st mm ar bw me co s₁ B hml hv
  obtain ⟨rfl, hsz, hP, hK, hD0, hN⟩ := hv
  have hx := B.exec
  have hb := B.bytes
  have hr := B.returns
  have hlocks := B.notSynchronized
  have hts0 := atoms_spec (ws := w_C_restart) B.pre
  have hts : ∀ w ∈ gw, w.before _ st = true := fun w h => hts0 w (List.mem_cons_of_mem _ h)
  have hown : st.vm.findClass R_C = some mm.cls := findClass_of_methodNamed B.named
  subst hsz
  have hD := hD0.self (sz := st.heap.size)
  generalize hAe : va_A [(h0, .inr (2, [.ref k1, .ref k2, .ref k3, .ref k4, .ref k5, .int (nI cc), .int (nI gc), .int (nI oc)]))] st.heap.size = A at hD ⊢
  have hA : ∀ q : Nat, st.heap.size ≤ q → A q := fun q h => by rw [← hAe]; exact Or.inr h
  have hS : va_S A st.heap st.heap [] := va_S.rf
  have hl := lv_entry ([.ref h0, .int (nI c2)]) (n := 2) (Nat.le_of_ble_eq_true rfl)
  rw [lg_entry_eq]
  generalize (lg_sl ([.ref h0, .int (nI c2)]) ++ List.replicate (2 - (lg_sl ([.ref h0, .int (nI c2)])).length) Slot.unset).toArray = ls at hl ⊢
  have hl : lv_has ls 2 [(0, .ref h0), (1, .int (nI c2))] := hl
  refine lv_aload_n hx hb d_C_restart_0 rfl (lv_at hl 0 rfl) ?_
  refine lv_iload_n hx hb d_C_restart_1 rfl (lv_at hl 1 rfl) ?_
  refine va_put (D := (dC, dI)) (ci := 2) (v := .int (nI c2)) (ty := .int) (C := R_C) (T := F_C) (N := 8) hx hb hts in_C t_C t_C_ok n_C hown hK hP hD hS 0 rfl rfl 5 (by decide) (hts _ kw_54) (fun _ h9 => h9) rfl (by decide +kernel) rfl rfl (Nat.le_of_ble_eq_true rfl) d_C_restart_2 (fun H locs hP hD hS => ?_)
  have hP : va_P (dC, dI) classes [(h0, .inr (2, [.ref k1, .ref k2, .ref k3, .ref k4, .ref k5, .int (nI c2), .int (nI gc), .int (nI oc)]))] H := hP
  have hD : va_D A [(h0, .inr (2, [.ref k1, .ref k2, .ref k3, .ref k4, .ref k5, .int (nI c2), .int (nI gc), .int (nI oc)]))] := hD
  refine lv_aload_n hx hb d_C_restart_5 rfl (lv_at hl 0 rfl) ?_
  refine lv_iconst (v := nI 0) hx hb d_C_restart_6 (by decide) ?_
  refine va_put (D := (dC, dI)) (ci := 2) (v := .int (nI 0)) (ty := .int) (C := R_C) (T := F_C) (N := 8) hx hb hts in_C t_C t_C_ok n_C hown hK hP hD hS 0 rfl rfl 6 (by decide) (hts _ kw_56) (fun _ h9 => h9) rfl (by decide +kernel) rfl rfl (Nat.le_of_ble_eq_true rfl) d_C_restart_7 (fun H locs hP hD hS => ?_)
  have hP : va_P (dC, dI) classes [(h0, .inr (2, [.ref k1, .ref k2, .ref k3, .ref k4, .ref k5, .int (nI c2), .int (nI 0), .int (nI oc)]))] H := hP
  have hD : va_D A [(h0, .inr (2, [.ref k1, .ref k2, .ref k3, .ref k4, .ref k5, .int (nI c2), .int (nI 0), .int (nI oc)]))] := hD
  refine lv_aload_n hx hb d_C_restart_10 rfl (lv_at hl 0 rfl) ?_
  refine lv_iconst (v := nI 0) hx hb d_C_restart_11 (by decide) ?_
  refine va_put (D := (dC, dI)) (ci := 2) (v := .int (nI 0)) (ty := .int) (C := R_C) (T := F_C) (N := 8) hx hb hts in_C t_C t_C_ok n_C hown hK hP hD hS 0 rfl rfl 7 (by decide) (hts _ kw_58) (fun _ h9 => h9) rfl (by decide +kernel) rfl rfl (Nat.le_of_ble_eq_true rfl) d_C_restart_12 (fun H locs hP hD hS => ?_)
  have hP : va_P (dC, dI) classes [(h0, .inr (2, [.ref k1, .ref k2, .ref k3, .ref k4, .ref k5, .int (nI c2), .int (nI 0), .int (nI 0)]))] H := hP
  have hD : va_D A [(h0, .inr (2, [.ref k1, .ref k2, .ref k3, .ref k4, .ref k5, .int (nI c2), .int (nI 0), .int (nI 0)]))] := hD
  have hP := hP.sub (ws' := [(h0, .inr (2, [.ref k1, .ref k2, .ref k3, .ref k4, .ref k5, .int (nI c2), .int (nI 0), .int (nI 0)]))]) [0] rfl
  have hD := hD.sub (ws' := [(h0, .inr (2, [.ref k1, .ref k2, .ref k3, .ref k4, .ref k5, .int (nI c2), .int (nI 0), .int (nI 0)]))]) [0] (by decide) rfl
  exact W.vret hx hb hr (fun t ht hW => ⟨⟨(), rfl, trivial, by rw [ht]; exact hP, va_K.moved hW.alike hK, hD⟩, hS.F ht⟩) hS.2.2 d_C_restart_15
set_option maxHeartbeats 4000000 in
set_option maxRecDepth 100000 in
theorem c_C_addGate (l : Launch) (dC : Nat → ClassId) (dI : Nat → Nat → Nat) (cI cL : ClassId) (sz : Nat) (h0 k1 k2 k3 k4 k5 : Nat) (cc gc oc : Nat) (kd lf rg ol : Nat → Nat) (hk : ck cc gc oc kd lf rg ol) (kk a b : Nat) (hgc : gc < 24) : Met l y_C_addGate w_C_addGate ({ frames := 1, cells := 0, slots := 0, locals := 20 } : Room) (va_Pc [.ref h0, .int (nI kk), .int (nI a), .int (nI b)] (wq_W (dC, dI) classes [(h0, .inr (2, [.ref k1, .ref k2, .ref k3, .ref k4, .ref k5, .int (nI cc), .int (nI gc), .int (nI oc)])), (k1, .inl (cI, 24, .inl (fun c => nI (kd c)))), (k2, .inl (cI, 24, .inl (fun c => nI (lf c)))), (k3, .inl (cI, 24, .inl (fun c => nI (rg c))))] [(cI, .int), (cL, .long)] sz)) (va_Qi (fun (r : Int32) (u : Unit) => r = nI (cc + gc)) (fun (u : Unit) t => wq_B (dC, dI) classes [(cI, .int), (cL, .long)] (va_A [(h0, .inr (2, [.ref k1, .ref k2, .ref k3, .ref k4, .ref k5, .int (nI cc), .int (nI gc), .int (nI oc)])), (k1, .inl (cI, 24, .inl (fun c => nI (kd c)))), (k2, .inl (cI, 24, .inl (fun c => nI (lf c)))), (k3, .inl (cI, 24, .inl (fun c => nI (rg c))))] sz) [(h0, .inr (2, [.ref k1, .ref k2, .ref k3, .ref k4, .ref k5, .int (nI cc), .int (nI (gc + 1)), .int (nI oc)])), (k1, .inl (cI, 24, .inl (fun c => nI ((va_up kd gc kk) c)))), (k2, .inl (cI, 24, .inl (fun c => nI ((va_up lf gc a) c)))), (k3, .inl (cI, 24, .inl (fun c => nI ((va_up rg gc b) c))))] t) (va_A [(h0, .inr (2, [.ref k1, .ref k2, .ref k3, .ref k4, .ref k5, .int (nI cc), .int (nI gc), .int (nI oc)])), (k1, .inl (cI, 24, .inl (fun c => nI (kd c)))), (k2, .inl (cI, 24, .inl (fun c => nI (lf c)))), (k3, .inl (cI, 24, .inl (fun c => nI (rg c))))] sz)) 0 0 (va_A [(h0, .inr (2, [.ref k1, .ref k2, .ref k3, .ref k4, .ref k5, .int (nI cc), .int (nI gc), .int (nI oc)])), (k1, .inl (cI, 24, .inl (fun c => nI (kd c)))), (k2, .inl (cI, 24, .inl (fun c => nI (lf c)))), (k3, .inl (cI, 24, .inl (fun c => nI (rg c))))] sz) := by
  refine Met.ofW (cc := b_C_addGate) (maxL := 5) (ret := (Option.some Jvm.ClassFile.FieldType.int)) (by decide) rfl ?_
  intro pg en st mm ar bw me co s₁ B hml hv
  obtain ⟨rfl, hsz, hP, hK, hD0, hN⟩ := hv
  have hx := B.exec
  have hb := B.bytes
  have hr := B.returns
  have hlocks := B.notSynchronized
  have hts0 := atoms_spec (ws := w_C_addGate) B.pre
  have hts : ∀ w ∈ gw, w.before _ st = true := fun w h => hts0 w (List.mem_cons_of_mem _ h)
  have hown : st.vm.findClass R_C = some mm.cls := findClass_of_methodNamed B.named
  subst hsz
  have hD := hD0.self (sz := st.heap.size)
  generalize hAe : va_A [(h0, .inr (2, [.ref k1, .ref k2, .ref k3, .ref k4, .ref k5, .int (nI cc), .int (nI gc), .int (nI oc)])), (k1, .inl (cI, 24, .inl (fun c => nI (kd c)))), (k2, .inl (cI, 24, .inl (fun c => nI (lf c)))), (k3, .inl (cI, 24, .inl (fun c => nI (rg c))))] st.heap.size = A at hD ⊢
  have hA : ∀ q : Nat, st.heap.size ≤ q → A q := fun q h => by rw [← hAe]; exact Or.inr h
  have hS : va_S A st.heap st.heap [] := va_S.rf
  have hl := lv_entry ([.ref h0, .int (nI kk), .int (nI a), .int (nI b)]) (n := 5) (Nat.le_of_ble_eq_true rfl)
  rw [lg_entry_eq]
  generalize (lg_sl ([.ref h0, .int (nI kk), .int (nI a), .int (nI b)]) ++ List.replicate (5 - (lg_sl ([.ref h0, .int (nI kk), .int (nI a), .int (nI b)])).length) Slot.unset).toArray = ls at hl ⊢
  have hl : lv_has ls 5 [(0, .ref h0), (1, .int (nI kk)), (2, .int (nI a)), (3, .int (nI b))] := hl
  refine lv_aload_n hx hb d_C_addGate_0 rfl (lv_at hl 0 rfl) ?_
  refine vp_callSi (va_Run.run (va_runV (As := []) (rest := []) ⟨hx, hb, hml, hown, hts⟩ (c_C_countLines l dC dI cI cL h0 k1 k2 k3 k4 k5 cc gc oc) (cwV 0 hts (gi_V kw_396 kw_373 ks_C_countLines kw_3 gi_C_countLines) rfl rfl rfl ⟨rfl, by decide, by decide, by decide⟩ ⟨Nat.le_of_ble_eq_true rfl, Nat.le_of_ble_eq_true rfl⟩) (wq_preVR hP hK hN [0] rfl (q0 := 0) (ci := 2) rfl rfl rfl) rfl rfl hl.1 rfl (lv_room (Nat.le_of_ble_eq_true rfl)) d_C_addGate_1 ⟨Nat.le_of_ble_eq_true rfl, Nat.le_of_ble_eq_true rfl⟩)) (fun r hq => ?_)
  subst hq
  refine lv_istore (lv' := [(4, .int (nI (cc + gc))), (0, .ref h0), (1, .int (nI kk)), (2, .int (nI a)), (3, .int (nI b))]) hx hb d_C_addGate_4 hl (by decide) rfl (fun ls hl => ?_)
  refine lv_aload_n hx hb d_C_addGate_6 rfl (lv_at hl 1 rfl) ?_
  refine va_get (D := (dC, dI)) (ci := 2) (v := .ref k1) (C := R_C) (T := F_C) (N := 8) hx hb hts in_C hown hK hP 0 rfl rfl 0 (by decide) (hts _ kw_49) (fun _ h9 => h9) rfl d_C_addGate_7 ?_
  refine lv_aload_n hx hb d_C_addGate_10 rfl (lv_at hl 1 rfl) ?_
  refine va_get (D := (dC, dI)) (ci := 2) (v := .int (nI gc)) (C := R_C) (T := F_C) (N := 8) hx hb hts in_C hown hK hP 0 rfl rfl 6 (by decide) (hts _ kw_56) (fun _ h9 => h9) rfl d_C_addGate_11 ?_
  refine lv_iload_n hx hb d_C_addGate_14 rfl (lv_at hl 2 rfl) ?_
  refine va_iast (D := (dC, dI)) (i := (nI gc)) (x := (nI kk)) hx hb hK hP hD hS 1 0 rfl rfl (vp_in_nI (by omega) (by decide)) d_C_addGate_15 (fun H locs hP hD hS => ?_)
  rw [nI_clamp (by omega), upd_nI] at hP hD
  have hP : va_P (dC, dI) classes [(h0, .inr (2, [.ref k1, .ref k2, .ref k3, .ref k4, .ref k5, .int (nI cc), .int (nI gc), .int (nI oc)])), (k1, .inl (cI, 24, .inl (fun c => nI ((va_up kd gc kk) c)))), (k2, .inl (cI, 24, .inl (fun c => nI (lf c)))), (k3, .inl (cI, 24, .inl (fun c => nI (rg c))))] H := hP
  have hD : va_D A [(h0, .inr (2, [.ref k1, .ref k2, .ref k3, .ref k4, .ref k5, .int (nI cc), .int (nI gc), .int (nI oc)])), (k1, .inl (cI, 24, .inl (fun c => nI ((va_up kd gc kk) c)))), (k2, .inl (cI, 24, .inl (fun c => nI (lf c)))), (k3, .inl (cI, 24, .inl (fun c => nI (rg c))))] := hD
  refine lv_aload_n hx hb d_C_addGate_16 rfl (lv_at hl 1 rfl) ?_
  refine va_get (D := (dC, dI)) (ci := 2) (v := .ref k2) (C := R_C) (T := F_C) (N := 8) hx hb hts in_C hown hK hP 0 rfl rfl 1 (by decide) (hts _ kw_50) (fun _ h9 => h9) rfl d_C_addGate_17 ?_
  refine lv_aload_n hx hb d_C_addGate_20 rfl (lv_at hl 1 rfl) ?_
  refine va_get (D := (dC, dI)) (ci := 2) (v := .int (nI gc)) (C := R_C) (T := F_C) (N := 8) hx hb hts in_C hown hK hP 0 rfl rfl 6 (by decide) (hts _ kw_56) (fun _ h9 => h9) rfl d_C_addGate_21 ?_
  refine lv_iload_n hx hb d_C_addGate_24 rfl (lv_at hl 3 rfl) ?_
  refine va_iast (D := (dC, dI)) (i := (nI gc)) (x := (nI a)) hx hb hK hP hD hS 2 0 rfl rfl (vp_in_nI (by omega) (by decide)) d_C_addGate_25 (fun H locs hP hD hS => ?_)
  rw [nI_clamp (by omega), upd_nI] at hP hD
  have hP : va_P (dC, dI) classes [(h0, .inr (2, [.ref k1, .ref k2, .ref k3, .ref k4, .ref k5, .int (nI cc), .int (nI gc), .int (nI oc)])), (k1, .inl (cI, 24, .inl (fun c => nI ((va_up kd gc kk) c)))), (k2, .inl (cI, 24, .inl (fun c => nI ((va_up lf gc a) c)))), (k3, .inl (cI, 24, .inl (fun c => nI (rg c))))] H := hP
  have hD : va_D A [(h0, .inr (2, [.ref k1, .ref k2, .ref k3, .ref k4, .ref k5, .int (nI cc), .int (nI gc), .int (nI oc)])), (k1, .inl (cI, 24, .inl (fun c => nI ((va_up kd gc kk) c)))), (k2, .inl (cI, 24, .inl (fun c => nI ((va_up lf gc a) c)))), (k3, .inl (cI, 24, .inl (fun c => nI (rg c))))] := hD
  refine lv_aload_n hx hb d_C_addGate_26 rfl (lv_at hl 1 rfl) ?_
  refine va_get (D := (dC, dI)) (ci := 2) (v := .ref k3) (C := R_C) (T := F_C) (N := 8) hx hb hts in_C hown hK hP 0 rfl rfl 2 (by decide) (hts _ kw_51) (fun _ h9 => h9) rfl d_C_addGate_27 ?_
  refine lv_aload_n hx hb d_C_addGate_30 rfl (lv_at hl 1 rfl) ?_
  refine va_get (D := (dC, dI)) (ci := 2) (v := .int (nI gc)) (C := R_C) (T := F_C) (N := 8) hx hb hts in_C hown hK hP 0 rfl rfl 6 (by decide) (hts _ kw_56) (fun _ h9 => h9) rfl d_C_addGate_31 ?_
  refine lv_iload_n hx hb d_C_addGate_34 rfl (lv_at hl 4 rfl) ?_
  refine va_iast (D := (dC, dI)) (i := (nI gc)) (x := (nI b)) hx hb hK hP hD hS 3 0 rfl rfl (vp_in_nI (by omega) (by decide)) d_C_addGate_35 (fun H locs hP hD hS => ?_)
  rw [nI_clamp (by omega), upd_nI] at hP hD
  have hP : va_P (dC, dI) classes [(h0, .inr (2, [.ref k1, .ref k2, .ref k3, .ref k4, .ref k5, .int (nI cc), .int (nI gc), .int (nI oc)])), (k1, .inl (cI, 24, .inl (fun c => nI ((va_up kd gc kk) c)))), (k2, .inl (cI, 24, .inl (fun c => nI ((va_up lf gc a) c)))), (k3, .inl (cI, 24, .inl (fun c => nI ((va_up rg gc b) c))))] H := hP
  have hD : va_D A [(h0, .inr (2, [.ref k1, .ref k2, .ref k3, .ref k4, .ref k5, .int (nI cc), .int (nI gc), .int (nI oc)])), (k1, .inl (cI, 24, .inl (fun c => nI ((va_up kd gc kk) c)))), (k2, .inl (cI, 24, .inl (fun c => nI ((va_up lf gc a) c)))), (k3, .inl (cI, 24, .inl (fun c => nI ((va_up rg gc b) c))))] := hD
  refine lv_aload_n hx hb d_C_addGate_36 rfl (lv_at hl 1 rfl) ?_
  refine lv_dup hx hb d_C_addGate_37 rfl ?_
  refine va_get (D := (dC, dI)) (ci := 2) (v := .int (nI gc)) (C := R_C) (T := F_C) (N := 8) hx hb hts in_C hown hK hP 0 rfl rfl 6 (by decide) (hts _ kw_56) (fun _ h9 => h9) rfl d_C_addGate_38 ?_
  refine lv_iconst (v := nI 1) hx hb d_C_addGate_41 (by decide) ?_
  refine lv_iadd hx hb d_C_addGate_42 ?_
  refine lv_topi (nm_r (show _ = nI (gc + 1) from nI_add gc 1) ?_)
  refine va_put (D := (dC, dI)) (ci := 2) (v := .int (nI (gc + 1))) (ty := .int) (C := R_C) (T := F_C) (N := 8) hx hb hts in_C t_C t_C_ok n_C hown hK hP hD hS 0 rfl rfl 6 (by decide) (hts _ kw_56) (fun _ h9 => h9) rfl (by decide +kernel) rfl rfl (Nat.le_of_ble_eq_true rfl) d_C_addGate_43 (fun H locs hP hD hS => ?_)
  have hP : va_P (dC, dI) classes [(h0, .inr (2, [.ref k1, .ref k2, .ref k3, .ref k4, .ref k5, .int (nI cc), .int (nI (gc + 1)), .int (nI oc)])), (k1, .inl (cI, 24, .inl (fun c => nI ((va_up kd gc kk) c)))), (k2, .inl (cI, 24, .inl (fun c => nI ((va_up lf gc a) c)))), (k3, .inl (cI, 24, .inl (fun c => nI ((va_up rg gc b) c))))] H := hP
  have hD : va_D A [(h0, .inr (2, [.ref k1, .ref k2, .ref k3, .ref k4, .ref k5, .int (nI cc), .int (nI (gc + 1)), .int (nI oc)])), (k1, .inl (cI, 24, .inl (fun c => nI ((va_up kd gc kk) c)))), (k2, .inl (cI, 24, .inl (fun c => nI ((va_up lf gc a) c)))), (k3, .inl (cI, 24, .inl (fun c => nI ((va_up rg gc b) c))))] := hD
  refine lv_iload hx hb d_C_addGate_46 (lv_at hl 0 rfl) ?_
  have hP := hP.sub (ws' := [(h0, .inr (2, [.ref k1, .ref k2, .ref k3, .ref k4, .ref k5, .int (nI cc), .int (nI (gc + 1)), .int (nI oc)])), (k1, .inl (cI, 24, .inl (fun c => nI ((va_up kd gc kk) c)))), (k2, .inl (cI, 24, .inl (fun c => nI ((va_up lf gc a) c)))), (k3, .inl (cI, 24, .inl (fun c => nI ((va_up rg gc b) c))))]) [0, 1, 2, 3] rfl
  have hD := hD.sub (ws' := [(h0, .inr (2, [.ref k1, .ref k2, .ref k3, .ref k4, .ref k5, .int (nI cc), .int (nI (gc + 1)), .int (nI oc)])), (k1, .inl (cI, 24, .inl (fun c => nI ((va_up kd gc kk) c)))), (k2, .inl (cI, 24, .inl (fun c => nI ((va_up lf gc a) c)))), (k3, .inl (cI, 24, .inl (fun c => nI ((va_up rg gc b) c))))]) [0, 1, 2, 3] (by decide) rfl
  exact W.iret (v := nI (cc + gc)) hx hb hr (fun t ht hW => ⟨⟨nI (cc + gc), (), rfl, rfl, by rw [ht]; exact hP, va_K.moved hW.alike hK, hD⟩, hS.F ht⟩) hS.2.2 d_C_addGate_48
set_option maxHeartbeats 4000000 in
set_option maxRecDepth 100000 in
theorem c_C_addOutput (l : Launch) (dC : Nat → ClassId) (dI : Nat → Nat → Nat) (cI cL : ClassId) (sz : Nat) (h0 k1 k2 k3 k4 k5 : Nat) (cc gc oc : Nat) (ol : Nat → Nat) (a : Nat) (hoc : oc < 16) : Met l y_C_addOutput w_C_addOutput ({ frames := 0, cells := 0, slots := 0, locals := 0 } : Room) (va_Pc [.ref h0, .int (nI a)] (wq_W (dC, dI) classes [(h0, .inr (2, [.ref k1, .ref k2, .ref k3, .ref k4, .ref k5, .int (nI cc), .int (nI gc), .int (nI oc)])), (k4, .inl (cI, 16, .inl (fun c => nI (ol c))))] [(cI, .int), (cL, .long)] sz)) (va_Qi (fun (r : Int32) (u : Unit) => r = nI oc) (fun (u : Unit) t => wq_B (dC, dI) classes [(cI, .int), (cL, .long)] (va_A [(h0, .inr (2, [.ref k1, .ref k2, .ref k3, .ref k4, .ref k5, .int (nI cc), .int (nI gc), .int (nI oc)])), (k4, .inl (cI, 16, .inl (fun c => nI (ol c))))] sz) [(h0, .inr (2, [.ref k1, .ref k2, .ref k3, .ref k4, .ref k5, .int (nI cc), .int (nI gc), .int (nI (oc + 1))])), (k4, .inl (cI, 16, .inl (fun c => nI ((va_up ol oc a) c))))] t) (va_A [(h0, .inr (2, [.ref k1, .ref k2, .ref k3, .ref k4, .ref k5, .int (nI cc), .int (nI gc), .int (nI oc)])), (k4, .inl (cI, 16, .inl (fun c => nI (ol c))))] sz)) 0 0 (va_A [(h0, .inr (2, [.ref k1, .ref k2, .ref k3, .ref k4, .ref k5, .int (nI cc), .int (nI gc), .int (nI oc)])), (k4, .inl (cI, 16, .inl (fun c => nI (ol c))))] sz) := by
  refine Met.ofW (cc := b_C_addOutput) (maxL := 2) (ret := (Option.some Jvm.ClassFile.FieldType.int)) (by decide) rfl ?_
  intro pg en st mm ar bw me co s₁ B hml hv
  obtain ⟨rfl, hsz, hP, hK, hD0, hN⟩ := hv
  have hx := B.exec
  have hb := B.bytes
  have hr := B.returns
  have hlocks := B.notSynchronized
  have hts0 := atoms_spec (ws := w_C_addOutput) B.pre
  have hts : ∀ w ∈ gw, w.before _ st = true := fun w h => hts0 w (List.mem_cons_of_mem _ h)
  have hown : st.vm.findClass R_C = some mm.cls := findClass_of_methodNamed B.named
  subst hsz
  have hD := hD0.self (sz := st.heap.size)
  generalize hAe : va_A [(h0, .inr (2, [.ref k1, .ref k2, .ref k3, .ref k4, .ref k5, .int (nI cc), .int (nI gc), .int (nI oc)])), (k4, .inl (cI, 16, .inl (fun c => nI (ol c))))] st.heap.size = A at hD ⊢
  have hA : ∀ q : Nat, st.heap.size ≤ q → A q := fun q h => by rw [← hAe]; exact Or.inr h
  have hS : va_S A st.heap st.heap [] := va_S.rf
  have hl := lv_entry ([.ref h0, .int (nI a)]) (n := 2) (Nat.le_of_ble_eq_true rfl)
  rw [lg_entry_eq]
  generalize (lg_sl ([.ref h0, .int (nI a)]) ++ List.replicate (2 - (lg_sl ([.ref h0, .int (nI a)])).length) Slot.unset).toArray = ls at hl ⊢
  have hl : lv_has ls 2 [(0, .ref h0), (1, .int (nI a))] := hl
  refine lv_aload_n hx hb d_C_addOutput_0 rfl (lv_at hl 0 rfl) ?_
  refine va_get (D := (dC, dI)) (ci := 2) (v := .ref k4) (C := R_C) (T := F_C) (N := 8) hx hb hts in_C hown hK hP 0 rfl rfl 3 (by decide) (hts _ kw_52) (fun _ h9 => h9) rfl d_C_addOutput_1 ?_
  refine lv_aload_n hx hb d_C_addOutput_4 rfl (lv_at hl 0 rfl) ?_
  refine va_get (D := (dC, dI)) (ci := 2) (v := .int (nI oc)) (C := R_C) (T := F_C) (N := 8) hx hb hts in_C hown hK hP 0 rfl rfl 7 (by decide) (hts _ kw_58) (fun _ h9 => h9) rfl d_C_addOutput_5 ?_
  refine lv_iload_n hx hb d_C_addOutput_8 rfl (lv_at hl 1 rfl) ?_
  refine va_iast (D := (dC, dI)) (i := (nI oc)) (x := (nI a)) hx hb hK hP hD hS 1 0 rfl rfl (vp_in_nI (by omega) (by decide)) d_C_addOutput_9 (fun H locs hP hD hS => ?_)
  rw [nI_clamp (by omega), upd_nI] at hP hD
  have hP : va_P (dC, dI) classes [(h0, .inr (2, [.ref k1, .ref k2, .ref k3, .ref k4, .ref k5, .int (nI cc), .int (nI gc), .int (nI oc)])), (k4, .inl (cI, 16, .inl (fun c => nI ((va_up ol oc a) c))))] H := hP
  have hD : va_D A [(h0, .inr (2, [.ref k1, .ref k2, .ref k3, .ref k4, .ref k5, .int (nI cc), .int (nI gc), .int (nI oc)])), (k4, .inl (cI, 16, .inl (fun c => nI ((va_up ol oc a) c))))] := hD
  refine lv_aload_n hx hb d_C_addOutput_10 rfl (lv_at hl 0 rfl) ?_
  refine lv_dup hx hb d_C_addOutput_11 rfl ?_
  refine va_get (D := (dC, dI)) (ci := 2) (v := .int (nI oc)) (C := R_C) (T := F_C) (N := 8) hx hb hts in_C hown hK hP 0 rfl rfl 7 (by decide) (hts _ kw_58) (fun _ h9 => h9) rfl d_C_addOutput_12 ?_
  refine lv_iconst (v := nI 1) hx hb d_C_addOutput_15 (by decide) ?_
  refine lv_iadd hx hb d_C_addOutput_16 ?_
  refine lv_topi (nm_r (show _ = nI (oc + 1) from nI_add oc 1) ?_)
  refine va_put (D := (dC, dI)) (ci := 2) (v := .int (nI (oc + 1))) (ty := .int) (C := R_C) (T := F_C) (N := 8) hx hb hts in_C t_C t_C_ok n_C hown hK hP hD hS 0 rfl rfl 7 (by decide) (hts _ kw_58) (fun _ h9 => h9) rfl (by decide +kernel) rfl rfl (Nat.le_of_ble_eq_true rfl) d_C_addOutput_17 (fun H locs hP hD hS => ?_)
  have hP : va_P (dC, dI) classes [(h0, .inr (2, [.ref k1, .ref k2, .ref k3, .ref k4, .ref k5, .int (nI cc), .int (nI gc), .int (nI (oc + 1))])), (k4, .inl (cI, 16, .inl (fun c => nI ((va_up ol oc a) c))))] H := hP
  have hD : va_D A [(h0, .inr (2, [.ref k1, .ref k2, .ref k3, .ref k4, .ref k5, .int (nI cc), .int (nI gc), .int (nI (oc + 1))])), (k4, .inl (cI, 16, .inl (fun c => nI ((va_up ol oc a) c))))] := hD
  refine lv_aload_n hx hb d_C_addOutput_20 rfl (lv_at hl 0 rfl) ?_
  refine va_get (D := (dC, dI)) (ci := 2) (v := .int (nI (oc + 1))) (C := R_C) (T := F_C) (N := 8) hx hb hts in_C hown hK hP 0 rfl rfl 7 (by decide) (hts _ kw_58) (fun _ h9 => h9) rfl d_C_addOutput_21 ?_
  refine lv_iconst (v := nI 1) hx hb d_C_addOutput_24 (by decide) ?_
  refine lv_isub hx hb d_C_addOutput_25 ?_
  refine lv_topi (nm_r (show _ = nI oc from nI_pred oc) ?_)
  have hP := hP.sub (ws' := [(h0, .inr (2, [.ref k1, .ref k2, .ref k3, .ref k4, .ref k5, .int (nI cc), .int (nI gc), .int (nI (oc + 1))])), (k4, .inl (cI, 16, .inl (fun c => nI ((va_up ol oc a) c))))]) [0, 1] rfl
  have hD := hD.sub (ws' := [(h0, .inr (2, [.ref k1, .ref k2, .ref k3, .ref k4, .ref k5, .int (nI cc), .int (nI gc), .int (nI (oc + 1))])), (k4, .inl (cI, 16, .inl (fun c => nI ((va_up ol oc a) c))))]) [0, 1] (by decide) rfl
  exact W.iret (v := nI oc) hx hb hr (fun t ht hW => ⟨⟨nI oc, (), rfl, rfl, by rw [ht]; exact hP, va_K.moved hW.alike hK, hD⟩, hS.F ht⟩) hS.2.2 d_C_addOutput_26
set_option maxHeartbeats 4000000 in
set_option maxRecDepth 100000 in
theorem c_D_clear (l : Launch) (dC : Nat → ClassId) (dI : Nat → Nat → Nat) (cI cL : ClassId) (sz : Nat) (e0 e1 sn : Nat) (rr : Nat → Nat) : Met l y_D_clear w_D_clear ({ frames := 0, cells := 0, slots := 0, locals := 0 } : Room) (va_Pc [.ref e0] (wq_W (dC, dI) classes [(e0, .inr (3, [.ref e1, .long (lN sn)])), (e1, .inl (cL, 33, .inr (.inl (fun c => lN (rr c)))))] [(cI, .int), (cL, .long)] sz)) (va_Qv (fun (u : Nat → Nat) => ∀ k, k < 33 → u k = 0) (fun (u : Nat → Nat) t => wq_B (dC, dI) classes [(cI, .int), (cL, .long)] (va_A [(e0, .inr (3, [.ref e1, .long (lN sn)])), (e1, .inl (cL, 33, .inr (.inl (fun c => lN (rr c)))))] sz) [(e0, .inr (3, [.ref e1, .long (lN 0)])), (e1, .inl (cL, 33, .inr (.inl (fun c => lN (u c)))))] t) (va_A [(e0, .inr (3, [.ref e1, .long (lN sn)])), (e1, .inl (cL, 33, .inr (.inl (fun c => lN (rr c)))))] sz)) 0 0 (va_A [(e0, .inr (3, [.ref e1, .long (lN sn)])), (e1, .inl (cL, 33, .inr (.inl (fun c => lN (rr c)))))] sz) := by
  refine Met.ofW (cc := b_D_clear) (maxL := 2) (ret := (Option.none : Option Jvm.ClassFile.FieldType)) (by decide) rfl ?_
  intro pg en st mm ar bw me co s₁ B hml hv
  obtain ⟨rfl, hsz, hP, hK, hD0, hN⟩ := hv
  have hx := B.exec
  have hb := B.bytes
  have hr := B.returns
  have hlocks := B.notSynchronized
  have hts0 := atoms_spec (ws := w_D_clear) B.pre
  have hts : ∀ w ∈ gw, w.before _ st = true := fun w h => hts0 w (List.mem_cons_of_mem _ h)
  have hown : st.vm.findClass R_D = some mm.cls := findClass_of_methodNamed B.named
  subst hsz
  have hD := hD0.self (sz := st.heap.size)
  generalize hAe : va_A [(e0, .inr (3, [.ref e1, .long (lN sn)])), (e1, .inl (cL, 33, .inr (.inl (fun c => lN (rr c)))))] st.heap.size = A at hD ⊢
  have hA : ∀ q : Nat, st.heap.size ≤ q → A q := fun q h => by rw [← hAe]; exact Or.inr h
  have hS : va_S A st.heap st.heap [] := va_S.rf
  have hl := lv_entry ([.ref e0]) (n := 2) (Nat.le_of_ble_eq_true rfl)
  rw [lg_entry_eq]
  generalize (lg_sl ([.ref e0]) ++ List.replicate (2 - (lg_sl ([.ref e0])).length) Slot.unset).toArray = ls at hl ⊢
  have hl : lv_has ls 2 [(0, .ref e0)] := hl
  have loop : ∀ (j k : Nat) (u : Nat → Nat), j + k = 33 → (∀ i, i < k → u i = 0) → ∀ (H : Heap) (locs : List Loc), va_P (dC, dI) classes [(e0, .inr (3, [.ref e1, .long (lN 0)])), (e1, .inl (cL, 33, .inr (.inl (fun c => lN (u c)))))] H → va_D A [(e0, .inr (3, [.ref e1, .long (lN 0)])), (e1, .inl (cL, 33, .inr (.inl (fun c => lN (u c)))))] → va_S A st.heap H locs → ∀ (ls : Array Slot), lv_has ls 2 [(0, .ref e0), (1, .int (nI k))] → W pg l en (headSpec w_D_clear ({ frames := 0, cells := 0, slots := 0, locals := 0 } : Room)).room st mm ([.ref e0] : List Value).toArray bw me co H locs 0 0 (MQ bw (va_Qv (fun (u : Nat → Nat) => ∀ k, k < 33 → u k = 0) (fun (u : Nat → Nat) t => wq_B (dC, dI) classes [(cI, .int), (cL, .long)] A [(e0, .inr (3, [.ref e1, .long (lN 0)])), (e1, .inl (cL, 33, .inr (.inl (fun c => lN (u c)))))] t) A) ([.ref e0] : List Value).toArray st 0 0 A) (F0 mm 7 ls []) := by
    intro j
    induction j with
    | zero =>
      intro k u hj hR H locs hP hD hS ls hl
      refine lv_iload_n hx hb d_D_clear_7 rfl (lv_at hl 1 rfl) ?_
      refine lv_aload_n hx hb d_D_clear_8 rfl (lv_at hl 0 rfl) ?_
      refine va_get (D := (dC, dI)) (ci := 3) (v := .ref e1) (C := R_D) (T := F_D) (N := 2) hx hb hts in_D hown hK hP 0 rfl rfl 0 (by decide) (hts _ kw_86) (fun _ h9 => h9) rfl d_D_clear_9 ?_
      refine va_alen (D := (dC, dI)) (v := nI 33) hx hb hK hP 1 1 rfl rfl rfl d_D_clear_12 ?_
      refine lv_icmp_ge (tgt := 29) hx hb d_D_clear_13 (by decide) (fun hc => ?_) (fun hc => ?_)
      · have hP := hP.sub (ws' := [(e0, .inr (3, [.ref e1, .long (lN 0)])), (e1, .inl (cL, 33, .inr (.inl (fun c => lN (u c)))))]) [0, 1] rfl
        have hD := hD.sub (ws' := [(e0, .inr (3, [.ref e1, .long (lN 0)])), (e1, .inl (cL, 33, .inr (.inl (fun c => lN (u c)))))]) [0, 1] (by decide) rfl
        exact W.vret hx hb hr (fun t ht hW => ⟨⟨u, rfl, (fun i hi => hR i (by omega)), by rw [ht]; exact hP, va_K.moved hW.alike hK, hD⟩, hS.F ht⟩) hS.2.2 d_D_clear_29
      · exact absurd ((nI_leI (by omega) (by omega)).mpr (by omega)) hc
    | succ j ih =>
      intro k u hj hR H locs hP hD hS ls hl
      refine lv_iload_n hx hb d_D_clear_7 rfl (lv_at hl 1 rfl) ?_
      refine lv_aload_n hx hb d_D_clear_8 rfl (lv_at hl 0 rfl) ?_
      refine va_get (D := (dC, dI)) (ci := 3) (v := .ref e1) (C := R_D) (T := F_D) (N := 2) hx hb hts in_D hown hK hP 0 rfl rfl 0 (by decide) (hts _ kw_86) (fun _ h9 => h9) rfl d_D_clear_9 ?_
      refine va_alen (D := (dC, dI)) (v := nI 33) hx hb hK hP 1 1 rfl rfl rfl d_D_clear_12 ?_
      refine lv_icmp_ge (tgt := 29) hx hb d_D_clear_13 (by decide) (fun hc => ?_) (fun hc => ?_)
      · exact absurd ((nI_leI (by omega) (by omega)).mp hc) (by omega)
      · refine lv_aload_n hx hb d_D_clear_16 rfl (lv_at hl 0 rfl) ?_
        refine va_get (D := (dC, dI)) (ci := 3) (v := .ref e1) (C := R_D) (T := F_D) (N := 2) hx hb hts in_D hown hK hP 0 rfl rfl 0 (by decide) (hts _ kw_86) (fun _ h9 => h9) rfl d_D_clear_17 ?_
        refine lv_iload_n hx hb d_D_clear_20 rfl (lv_at hl 1 rfl) ?_
        refine lv_lconst (v := lN 0) hx hb d_D_clear_21 (by decide) ?_
        refine va_last (D := (dC, dI)) (i := (nI k)) (x := (lN 0)) hx hb hK hP hD hS 1 1 rfl rfl (vp_in_nI (by omega) (by decide)) d_D_clear_22 (fun H locs hP hD hS => ?_)
        rw [nI_clamp (by omega), updL_lN] at hP hD
        have hP : va_P (dC, dI) classes [(e0, .inr (3, [.ref e1, .long (lN 0)])), (e1, .inl (cL, 33, .inr (.inl (fun c => lN ((va_up u k 0) c)))))] H := hP
        have hD : va_D A [(e0, .inr (3, [.ref e1, .long (lN 0)])), (e1, .inl (cL, 33, .inr (.inl (fun c => lN ((va_up u k 0) c)))))] := hD
        refine lv_iinc (v := nI (k + 1)) (lv' := [(1, .int (nI (k + 1))), (0, .ref e0)]) hx hb d_D_clear_23 hl (k := 1) rfl (nI_1 k) (by decide) rfl (fun ls hl => ?_)
        refine lv_goto (tgt := 7) hx hb d_D_clear_26 (by decide) ?_
        have hl := lv_sub (l' := [(0, .ref e0), (1, .int (nI (k + 1)))]) hl [1, 0] rfl
        exact ih (k + 1) (va_up u k 0) (by omega) (fun i hi => by
          by_cases e : i = k
          · rw [e]; exact va_up_self _ _ _
          · rw [va_up_ne _ _ e]; exact hR i (by omega)) H locs hP hD hS ls hl
  refine lv_aload_n hx hb d_D_clear_0 rfl (lv_at hl 0 rfl) ?_
  refine lv_lconst (v := lN 0) hx hb d_D_clear_1 (by decide) ?_
  refine va_put (D := (dC, dI)) (ci := 3) (v := .long (lN 0)) (ty := .long) (C := R_D) (T := F_D) (N := 2) hx hb hts in_D t_D t_D_ok n_D hown hK hP hD hS 0 rfl rfl 1 (by decide) (hts _ kw_87) (fun _ h9 => h9) rfl (by decide +kernel) rfl rfl (Nat.le_of_ble_eq_true rfl) d_D_clear_2 (fun H locs hP hD hS => ?_)
  have hP : va_P (dC, dI) classes [(e0, .inr (3, [.ref e1, .long (lN 0)])), (e1, .inl (cL, 33, .inr (.inl (fun c => lN (rr c)))))] H := hP
  have hD : va_D A [(e0, .inr (3, [.ref e1, .long (lN 0)])), (e1, .inl (cL, 33, .inr (.inl (fun c => lN (rr c)))))] := hD
  refine lv_iconst (v := nI 0) hx hb d_D_clear_5 (by decide) ?_
  refine lv_istore_n (lv' := [(1, .int (nI 0)), (0, .ref e0)]) hx hb d_D_clear_6 rfl hl (by decide) rfl (fun ls hl => ?_)
  have hl := lv_sub (l' := [(0, .ref e0), (1, .int (nI 0))]) hl [1, 0] rfl
  exact loop 33 0 rr rfl (fun i hi => absurd hi (Nat.not_lt_zero i)) _ _ hP hD hS ls hl
set_option maxHeartbeats 4000000 in
set_option maxRecDepth 100000 in
theorem c_D_timesX (l : Launch) (dC : Nat → ClassId) (dI : Nat → Nat → Nat) (cI cL : ClassId) (sz : Nat) (e0 e1 sn : Nat) (rr : Nat → Nat) : Met l y_D_timesX w_D_timesX ({ frames := 0, cells := 0, slots := 0, locals := 0 } : Room) (va_Pc [.ref e0] (wq_W (dC, dI) classes [(e0, .inr (3, [.ref e1, .long (lN sn)])), (e1, .inl (cL, 33, .inr (.inl (fun c => lN (rr c)))))] [(cI, .int), (cL, .long)] sz)) (va_Qv (fun (u : Nat → Nat) => u 0 = 0 ∧ ∀ k, k < 32 → u (k + 1) = rr k) (fun (u : Nat → Nat) t => wq_B (dC, dI) classes [(cI, .int), (cL, .long)] (va_A [(e0, .inr (3, [.ref e1, .long (lN sn)])), (e1, .inl (cL, 33, .inr (.inl (fun c => lN (rr c)))))] sz) [(e0, .inr (3, [.ref e1, .long (lN sn)])), (e1, .inl (cL, 33, .inr (.inl (fun c => lN (u c)))))] t) (va_A [(e0, .inr (3, [.ref e1, .long (lN sn)])), (e1, .inl (cL, 33, .inr (.inl (fun c => lN (rr c)))))] sz)) 0 0 (va_A [(e0, .inr (3, [.ref e1, .long (lN sn)])), (e1, .inl (cL, 33, .inr (.inl (fun c => lN (rr c)))))] sz) := by
  refine Met.ofW (cc := b_D_timesX) (maxL := 2) (ret := (Option.none : Option Jvm.ClassFile.FieldType)) (by decide) rfl ?_
  intro pg en st mm ar bw me co s₁ B hml hv
  obtain ⟨rfl, hsz, hP, hK, hD0, hN⟩ := hv
  have hx := B.exec
  have hb := B.bytes
  have hr := B.returns
  have hlocks := B.notSynchronized
  have hts0 := atoms_spec (ws := w_D_timesX) B.pre
  have hts : ∀ w ∈ gw, w.before _ st = true := fun w h => hts0 w (List.mem_cons_of_mem _ h)
  have hown : st.vm.findClass R_D = some mm.cls := findClass_of_methodNamed B.named
  subst hsz
  have hD := hD0.self (sz := st.heap.size)
  generalize hAe : va_A [(e0, .inr (3, [.ref e1, .long (lN sn)])), (e1, .inl (cL, 33, .inr (.inl (fun c => lN (rr c)))))] st.heap.size = A at hD ⊢
  have hA : ∀ q : Nat, st.heap.size ≤ q → A q := fun q h => by rw [← hAe]; exact Or.inr h
  have hS : va_S A st.heap st.heap [] := va_S.rf
  have hl := lv_entry ([.ref e0]) (n := 2) (Nat.le_of_ble_eq_true rfl)
  rw [lg_entry_eq]
  generalize (lg_sl ([.ref e0]) ++ List.replicate (2 - (lg_sl ([.ref e0])).length) Slot.unset).toArray = ls at hl ⊢
  have hl : lv_has ls 2 [(0, .ref e0)] := hl
  have loop : ∀ (k : Nat) (u : Nat → Nat), k ≤ 32 → (∀ i, i ≤ k → u i = rr i) → (∀ i, k ≤ i → i < 32 → u (i + 1) = rr i) → ∀ (H : Heap) (locs : List Loc), va_P (dC, dI) classes [(e0, .inr (3, [.ref e1, .long (lN sn)])), (e1, .inl (cL, 33, .inr (.inl (fun c => lN (u c)))))] H → va_D A [(e0, .inr (3, [.ref e1, .long (lN sn)])), (e1, .inl (cL, 33, .inr (.inl (fun c => lN (u c)))))] → va_S A st.heap H locs → ∀ (ls : Array Slot), lv_has ls 2 [(0, .ref e0), (1, .int (nI k))] → W pg l en (headSpec w_D_timesX ({ frames := 0, cells := 0, slots := 0, locals := 0 } : Room)).room st mm ([.ref e0] : List Value).toArray bw me co H locs 0 0 (MQ bw (va_Qv (fun (u : Nat → Nat) => u 0 = 0 ∧ ∀ k, k < 32 → u (k + 1) = rr k) (fun (u : Nat → Nat) t => wq_B (dC, dI) classes [(cI, .int), (cL, .long)] A [(e0, .inr (3, [.ref e1, .long (lN sn)])), (e1, .inl (cL, 33, .inr (.inl (fun c => lN (u c)))))] t) A) ([.ref e0] : List Value).toArray st 0 0 A) (F0 mm 8 ls []) := by
    intro k
    induction k with
    | zero =>
      intro u hk h1 h2 H locs hP hD hS ls hl
      refine lv_iload_n hx hb d_D_timesX_8 rfl (lv_at hl 1 rfl) ?_
      refine lv_if_le (tgt := 32) hx hb d_D_timesX_9 (by decide) (fun hc => ?_) (fun hc => ?_)
      · refine lv_aload_n hx hb d_D_timesX_32 rfl (lv_at hl 0 rfl) ?_
        refine va_get (D := (dC, dI)) (ci := 3) (v := .ref e1) (C := R_D) (T := F_D) (N := 2) hx hb hts in_D hown hK hP 0 rfl rfl 0 (by decide) (hts _ kw_86) (fun _ h9 => h9) rfl d_D_timesX_33 ?_
        refine lv_iconst (v := nI 0) hx hb d_D_timesX_36 (by decide) ?_
        refine lv_lconst (v := lN 0) hx hb d_D_timesX_37 (by decide) ?_
        refine va_last (D := (dC, dI)) (i := (nI 0)) (x := (lN 0)) hx hb hK hP hD hS 1 1 rfl rfl (vp_in_nI (by omega) (by decide)) d_D_timesX_38 (fun H locs hP hD hS => ?_)
        rw [nI_clamp (by omega), updL_lN] at hP hD
        have hP : va_P (dC, dI) classes [(e0, .inr (3, [.ref e1, .long (lN sn)])), (e1, .inl (cL, 33, .inr (.inl (fun c => lN ((va_up u 0 0) c)))))] H := hP
        have hD : va_D A [(e0, .inr (3, [.ref e1, .long (lN sn)])), (e1, .inl (cL, 33, .inr (.inl (fun c => lN ((va_up u 0 0) c)))))] := hD
        have hP := hP.sub (ws' := [(e0, .inr (3, [.ref e1, .long (lN sn)])), (e1, .inl (cL, 33, .inr (.inl (fun c => lN ((va_up u 0 0) c)))))]) [0, 1] rfl
        have hD := hD.sub (ws' := [(e0, .inr (3, [.ref e1, .long (lN sn)])), (e1, .inl (cL, 33, .inr (.inl (fun c => lN ((va_up u 0 0) c)))))]) [0, 1] (by decide) rfl
        exact W.vret hx hb hr (fun t ht hW => ⟨⟨(va_up u 0 0), rfl, ⟨va_up_self _ _ _, fun i hi => by rw [va_up_ne _ _ (by omega)]; exact h2 i (by omega) hi⟩, by rw [ht]; exact hP, va_K.moved hW.alike hK, hD⟩, hS.F ht⟩) hS.2.2 d_D_timesX_39
      · exact absurd (by decide) hc
    | succ k ih =>
      intro u hk h1 h2 H locs hP hD hS ls hl
      refine lv_iload_n hx hb d_D_timesX_8 rfl (lv_at hl 1 rfl) ?_
      refine lv_if_le (tgt := 32) hx hb d_D_timesX_9 (by decide) (fun hc => ?_) (fun hc => ?_)
      · exact absurd hc ((by decide +kernel : ∀ n, n < 33 → ¬ nI (n + 1) ≤ 0) k (by omega))
      · refine lv_aload_n hx hb d_D_timesX_12 rfl (lv_at hl 0 rfl) ?_
        refine va_get (D := (dC, dI)) (ci := 3) (v := .ref e1) (C := R_D) (T := F_D) (N := 2) hx hb hts in_D hown hK hP 0 rfl rfl 0 (by decide) (hts _ kw_86) (fun _ h9 => h9) rfl d_D_timesX_13 ?_
        refine lv_iload_n hx hb d_D_timesX_16 rfl (lv_at hl 1 rfl) ?_
        refine lv_aload_n hx hb d_D_timesX_17 rfl (lv_at hl 0 rfl) ?_
        refine va_get (D := (dC, dI)) (ci := 3) (v := .ref e1) (C := R_D) (T := F_D) (N := 2) hx hb hts in_D hown hK hP 0 rfl rfl 0 (by decide) (hts _ kw_86) (fun _ h9 => h9) rfl d_D_timesX_18 ?_
        refine lv_iload_n hx hb d_D_timesX_21 rfl (lv_at hl 1 rfl) ?_
        refine lv_iconst (v := nI 1) hx hb d_D_timesX_22 (by decide) ?_
        refine lv_isub hx hb d_D_timesX_23 ?_
        refine lv_topi (nm_r (show _ = nI k from nI_pred k) ?_)
        refine va_lald (D := (dC, dI)) hx hb hK hP 1 1 rfl rfl (vp_in_nI (by omega) (by decide)) d_D_timesX_24 ?_
        refine lv_topl (nm_r (show _ = lN (u k) from congrArg (fun c => lN (u c)) (nI_clamp (by omega))) ?_)
        refine va_last (D := (dC, dI)) (i := (nI (k + 1))) (x := (lN (u k))) hx hb hK hP hD hS 1 1 rfl rfl (vp_in_nI (by omega) (by decide)) d_D_timesX_25 (fun H locs hP hD hS => ?_)
        rw [nI_clamp (by omega), updL_lN] at hP hD
        have hP : va_P (dC, dI) classes [(e0, .inr (3, [.ref e1, .long (lN sn)])), (e1, .inl (cL, 33, .inr (.inl (fun c => lN ((va_up u (k + 1) (u k)) c)))))] H := hP
        have hD : va_D A [(e0, .inr (3, [.ref e1, .long (lN sn)])), (e1, .inl (cL, 33, .inr (.inl (fun c => lN ((va_up u (k + 1) (u k)) c)))))] := hD
        refine lv_iinc (v := nI k) (lv' := [(1, .int (nI k)), (0, .ref e0)]) hx hb d_D_timesX_26 hl (k := 1) rfl ((jm_dec (k + 1)).trans (jm_succ k)) (by decide) rfl (fun ls hl => ?_)
        refine lv_goto (tgt := 8) hx hb d_D_timesX_29 (by decide) ?_
        have hl := lv_sub (l' := [(0, .ref e0), (1, .int (nI k))]) hl [1, 0] rfl
        exact ih (va_up u (k + 1) (u k)) (by omega) (fun i hi => by rw [va_up_ne _ _ (by omega)]; exact h1 i (by omega)) (fun i hi hi2 => by
          by_cases e : i = k
          · rw [e, va_up_self]; exact h1 k (by omega)
          · rw [va_up_ne _ _ (by omega)]; exact h2 i (by omega) hi2) H locs hP hD hS ls hl
  refine lv_aload_n hx hb d_D_timesX_0 rfl (lv_at hl 0 rfl) ?_
  refine va_get (D := (dC, dI)) (ci := 3) (v := .ref e1) (C := R_D) (T := F_D) (N := 2) hx hb hts in_D hown hK hP 0 rfl rfl 0 (by decide) (hts _ kw_86) (fun _ h9 => h9) rfl d_D_timesX_1 ?_
  refine va_alen (D := (dC, dI)) (v := nI 33) hx hb hK hP 1 1 rfl rfl rfl d_D_timesX_4 ?_
  refine lv_iconst (v := nI 1) hx hb d_D_timesX_5 (by decide) ?_
  refine lv_isub hx hb d_D_timesX_6 ?_
  refine lv_topi (nm_r (show _ = nI 32 from by decide) ?_)
  refine lv_istore_n (lv' := [(1, .int (nI 32)), (0, .ref e0)]) hx hb d_D_timesX_7 rfl hl (by decide) rfl (fun ls hl => ?_)
  have hl := lv_sub (l' := [(0, .ref e0), (1, .int (nI 32))]) hl [1, 0] rfl
  exact loop 32 rr (by decide) (fun i _ => rfl) (fun i hi hi2 => absurd hi (by omega)) _ _ hP hD hS ls hl
set_option maxHeartbeats 4000000 in
set_option maxRecDepth 100000 in
theorem c_D_found (l : Launch) (dC : Nat → ClassId) (dI : Nat → Nat → Nat) (cI cL : ClassId) (e0 e1 sn : Nat) (rr : Nat → Nat) (hr2 : ∀ k, k < 33 → rr k < 2 ^ 64) : Met l y_D_found w_D_found ({ frames := 0, cells := 0, slots := 0, locals := 0 } : Room) (va_Pc [.ref e0] (wq_R (dC, dI) classes [(e0, .inr (3, [.ref e1, .long (lN sn)])), (e1, .inl (cL, 33, .inr (.inl (fun c => lN (rr c)))))] [(cI, .int), (cL, .long)])) (vp_Sl (fun r => r = lN (dr_or rr 33))) 0 0 (fun _ => False) := by
  refine Met.ofW (cc := b_D_found) (maxL := 4) (ret := (Option.some Jvm.ClassFile.FieldType.long)) (by decide) rfl ?_
  intro pg en st mm ar bw me co s₁ B hml hv
  obtain ⟨rfl, hP, hK, hN⟩ := hv
  have hx := B.exec
  have hb := B.bytes
  have hr := B.returns
  have hlocks := B.notSynchronized
  have hts0 := atoms_spec (ws := w_D_found) B.pre
  have hts : ∀ w ∈ gw, w.before _ st = true := fun w h => hts0 w (List.mem_cons_of_mem _ h)
  have hown : st.vm.findClass R_D = some mm.cls := findClass_of_methodNamed B.named
  have hl := lv_entry ([.ref e0]) (n := 4) (Nat.le_of_ble_eq_true rfl)
  rw [lg_entry_eq]
  generalize (lg_sl ([.ref e0]) ++ List.replicate (4 - (lg_sl ([.ref e0])).length) Slot.unset).toArray = ls at hl ⊢
  have hl : lv_has ls 4 [(0, .ref e0)] := hl
  have loop : ∀ (j k : Nat), j + k = 33 → ∀ (ls : Array Slot), lv_has ls 4 [(0, .ref e0), (1, .long (lN (dr_or rr k))), (3, .int (nI k))] → W pg l en (headSpec w_D_found ({ frames := 0, cells := 0, slots := 0, locals := 0 } : Room)).room st mm ([.ref e0] : List Value).toArray bw me co st.heap [] 0 0 (MQ bw (vp_Sl (fun r => r = lN (dr_or rr 33))) ([.ref e0] : List Value).toArray st 0 0 (fun _ => False)) (F0 mm 4 ls []) := by
    intro j
    induction j with
    | zero =>
      intro k hj ls hl
      refine lv_iload_n hx hb d_D_found_4 rfl (lv_at hl 2 rfl) ?_
      refine lv_aload_n hx hb d_D_found_5 rfl (lv_at hl 0 rfl) ?_
      refine va_get (D := (dC, dI)) (ci := 3) (v := .ref e1) (C := R_D) (T := F_D) (N := 2) hx hb hts in_D hown hK hP 0 rfl rfl 0 (by decide) (hts _ kw_86) (fun _ h9 => h9) rfl d_D_found_6 ?_
      refine va_alen (D := (dC, dI)) (v := nI 33) hx hb hK hP 1 1 rfl rfl rfl d_D_found_9 ?_
      refine lv_icmp_ge (tgt := 28) hx hb d_D_found_10 (by decide) (fun hc => ?_) (fun hc => ?_)
      · have hi : k = 33 := by omega
        subst hi
        refine lv_lload_n hx hb d_D_found_28 rfl (lv_at hl 1 rfl) ?_
        exact W.lret (v := lN (dr_or rr 33)) hx hb hr (fun t ht hW => ⟨lN (dr_or rr 33), rfl, rfl, ht⟩) (fun _ h => nomatch h) d_D_found_29
      · exact absurd ((nI_leI (by omega) (by omega)).mpr (by omega)) hc
    | succ j ih =>
      intro k hj ls hl
      refine lv_iload_n hx hb d_D_found_4 rfl (lv_at hl 2 rfl) ?_
      refine lv_aload_n hx hb d_D_found_5 rfl (lv_at hl 0 rfl) ?_
      refine va_get (D := (dC, dI)) (ci := 3) (v := .ref e1) (C := R_D) (T := F_D) (N := 2) hx hb hts in_D hown hK hP 0 rfl rfl 0 (by decide) (hts _ kw_86) (fun _ h9 => h9) rfl d_D_found_6 ?_
      refine va_alen (D := (dC, dI)) (v := nI 33) hx hb hK hP 1 1 rfl rfl rfl d_D_found_9 ?_
      refine lv_icmp_ge (tgt := 28) hx hb d_D_found_10 (by decide) (fun hc => ?_) (fun hc => ?_)
      · exact absurd ((nI_leI (by omega) (by omega)).mp hc) (by omega)
      · refine lv_lload_n hx hb d_D_found_13 rfl (lv_at hl 1 rfl) ?_
        refine lv_aload_n hx hb d_D_found_14 rfl (lv_at hl 0 rfl) ?_
        refine va_get (D := (dC, dI)) (ci := 3) (v := .ref e1) (C := R_D) (T := F_D) (N := 2) hx hb hts in_D hown hK hP 0 rfl rfl 0 (by decide) (hts _ kw_86) (fun _ h9 => h9) rfl d_D_found_15 ?_
        refine lv_iload_n hx hb d_D_found_18 rfl (lv_at hl 2 rfl) ?_
        refine va_lald (D := (dC, dI)) hx hb hK hP 1 1 rfl rfl (vp_in_nI (by omega) (by decide)) d_D_found_19 ?_
        refine lv_topl (nm_r (show _ = lN (rr k) from congrArg (fun c => lN (rr c)) (nI_clamp (by omega))) ?_)
        refine lv_lor hx hb d_D_found_20 ?_
        refine lv_topl (nm_r (show _ = lN (dr_or rr (k + 1)) from wb_or (dr_or_lt k (fun j hj => hr2 j (by omega))) (hr2 k (by omega))) ?_)
        refine lv_lstore_n (lv' := [(1, .long (lN (dr_or rr (k + 1)))), (0, .ref e0), (3, .int (nI k))]) hx hb d_D_found_21 rfl hl (by decide) rfl (fun ls hl => ?_)
        refine lv_iinc (v := nI (k + 1)) (lv' := [(3, .int (nI (k + 1))), (1, .long (lN (dr_or rr (k + 1)))), (0, .ref e0)]) hx hb d_D_found_22 hl (k := 2) rfl (nI_1 k) (by decide) rfl (fun ls hl => ?_)
        refine lv_goto (tgt := 4) hx hb d_D_found_25 (by decide) ?_
        have hl := lv_sub (l' := [(0, .ref e0), (1, .long (lN (dr_or rr (k + 1)))), (3, .int (nI (k + 1)))]) hl [2, 1, 0] rfl
        exact ih (k + 1) (by omega) ls hl
  refine lv_lconst (v := lN 0) hx hb d_D_found_0 (by decide) ?_
  refine lv_lstore_n (lv' := [(1, .long (lN 0)), (0, .ref e0)]) hx hb d_D_found_1 rfl hl (by decide) rfl (fun ls hl => ?_)
  refine lv_iconst (v := nI 0) hx hb d_D_found_2 (by decide) ?_
  refine lv_istore_n (lv' := [(3, .int (nI 0)), (1, .long (lN 0)), (0, .ref e0)]) hx hb d_D_found_3 rfl hl (by decide) rfl (fun ls hl => ?_)
  have hl := lv_sub (l' := [(0, .ref e0), (1, .long (lN 0)), (3, .int (nI 0))]) hl [2, 1, 0] rfl
  exact loop 33 0 rfl ls hl
set_option maxHeartbeats 4000000 in
set_option maxRecDepth 100000 in
theorem c_D_subtract (l : Launch) (dC : Nat → ClassId) (dI : Nat → Nat → Nat) (cI cL : ClassId) (sz : Nat) (e0 e1 sn : Nat) (rr : Nat → Nat) (top p n s : Nat) (DF : Nat → Nat) (htop : top < 2 ^ 64) (hp2 : p < 2 ^ (n + 1)) (hs : n + s ≤ 32) (hd : dr rr DF) : Met l y_D_subtract w_D_subtract ({ frames := 0, cells := 0, slots := 0, locals := 0 } : Room) (va_Pc [.ref e0, .long (lN top), .long (lN p), .int (nI s)] (wq_W (dC, dI) classes [(e0, .inr (3, [.ref e1, .long (lN sn)])), (e1, .inl (cL, 33, .inr (.inl (fun c => lN (rr c)))))] [(cI, .int), (cL, .long)] sz)) (va_Qv (fun (u : Nat → Nat) => dr u (fun f => if top.testBit f = true then DF f ^^^ p * 2 ^ s else DF f)) (fun (u : Nat → Nat) t => wq_B (dC, dI) classes [(cI, .int), (cL, .long)] (va_A [(e0, .inr (3, [.ref e1, .long (lN sn)])), (e1, .inl (cL, 33, .inr (.inl (fun c => lN (rr c)))))] sz) [(e0, .inr (3, [.ref e1, .long (lN sn)])), (e1, .inl (cL, 33, .inr (.inl (fun c => lN (u c)))))] t) (va_A [(e0, .inr (3, [.ref e1, .long (lN sn)])), (e1, .inl (cL, 33, .inr (.inl (fun c => lN (rr c)))))] sz)) 0 0 (va_A [(e0, .inr (3, [.ref e1, .long (lN sn)])), (e1, .inl (cL, 33, .inr (.inl (fun c => lN (rr c)))))] sz) := by
  refine Met.ofW (cc := b_D_subtract) (maxL := 7) (ret := (Option.none : Option Jvm.ClassFile.FieldType)) (by decide) rfl ?_
  intro pg en st mm ar bw me co s₁ B hml hv
  obtain ⟨rfl, hsz, hP, hK, hD0, hN⟩ := hv
  have hx := B.exec
  have hb := B.bytes
  have hr := B.returns
  have hlocks := B.notSynchronized
  have hts0 := atoms_spec (ws := w_D_subtract) B.pre
  have hts : ∀ w ∈ gw, w.before _ st = true := fun w h => hts0 w (List.mem_cons_of_mem _ h)
  have hown : st.vm.findClass R_D = some mm.cls := findClass_of_methodNamed B.named
  subst hsz
  have hD := hD0.self (sz := st.heap.size)
  generalize hAe : va_A [(e0, .inr (3, [.ref e1, .long (lN sn)])), (e1, .inl (cL, 33, .inr (.inl (fun c => lN (rr c)))))] st.heap.size = A at hD ⊢
  have hA : ∀ q : Nat, st.heap.size ≤ q → A q := fun q h => by rw [← hAe]; exact Or.inr h
  have hS : va_S A st.heap st.heap [] := va_S.rf
  have hl := lv_entry ([.ref e0, .long (lN top), .long (lN p), .int (nI s)]) (n := 7) (Nat.le_of_ble_eq_true rfl)
  rw [lg_entry_eq]
  generalize (lg_sl ([.ref e0, .long (lN top), .long (lN p), .int (nI s)]) ++ List.replicate (7 - (lg_sl ([.ref e0, .long (lN top), .long (lN p), .int (nI s)])).length) Slot.unset).toArray = ls at hl ⊢
  have hl : lv_has ls 7 [(0, .ref e0), (1, .long (lN top)), (3, .long (lN p)), (5, .int (nI s))] := hl
  have hp3 : p < 2 ^ 64 := by
    have h9 : 2 ^ (n + 1) ≤ 2 ^ 64 := Nat.pow_le_pow_right (by decide) (by omega)
    omega
  have loop : ∀ (j k : Nat) (u : Nat → Nat), j + k + s = 33 → dr u (fun f => if top.testBit f = true then DF f ^^^ dr_p p s k else DF f) → ∀ (H : Heap) (locs : List Loc), va_P (dC, dI) classes [(e0, .inr (3, [.ref e1, .long (lN sn)])), (e1, .inl (cL, 33, .inr (.inl (fun c => lN (u c)))))] H → va_D A [(e0, .inr (3, [.ref e1, .long (lN sn)])), (e1, .inl (cL, 33, .inr (.inl (fun c => lN (u c)))))] → va_S A st.heap H locs → ∀ (ls : Array Slot), lv_has ls 7 [(0, .ref e0), (1, .long (lN top)), (3, .long (lN p)), (5, .int (nI s)), (6, .int (nI k))] → W pg l en (headSpec w_D_subtract ({ frames := 0, cells := 0, slots := 0, locals := 0 } : Room)).room st mm ([.ref e0, .long (lN top), .long (lN p), .int (nI s)] : List Value).toArray bw me co H locs 0 0 (MQ bw (va_Qv (fun (u : Nat → Nat) => dr u (fun f => if top.testBit f = true then DF f ^^^ p * 2 ^ s else DF f)) (fun (u : Nat → Nat) t => wq_B (dC, dI) classes [(cI, .int), (cL, .long)] A [(e0, .inr (3, [.ref e1, .long (lN sn)])), (e1, .inl (cL, 33, .inr (.inl (fun c => lN (u c)))))] t) A) ([.ref e0, .long (lN top), .long (lN p), .int (nI s)] : List Value).toArray st 0 0 A) (F0 mm 3 ls []) := by
    intro j
    induction j with
    | zero =>
      intro k u hj hR H locs hP hD hS ls hl
      refine lv_iload hx hb d_D_subtract_3 (lv_at hl 4 rfl) ?_
      refine lv_iload hx hb d_D_subtract_5 (lv_at hl 3 rfl) ?_
      refine lv_iadd hx hb d_D_subtract_7 ?_
      refine lv_topi (nm_r (show _ = nI (k + s) from nI_add k s) ?_)
      refine lv_aload_n hx hb d_D_subtract_8 rfl (lv_at hl 0 rfl) ?_
      refine va_get (D := (dC, dI)) (ci := 3) (v := .ref e1) (C := R_D) (T := F_D) (N := 2) hx hb hts in_D hown hK hP 0 rfl rfl 0 (by decide) (hts _ kw_86) (fun _ h9 => h9) rfl d_D_subtract_9 ?_
      refine va_alen (D := (dC, dI)) (v := nI 33) hx hb hK hP 1 1 rfl rfl rfl d_D_subtract_12 ?_
      refine lv_icmp_ge (tgt := 47) hx hb d_D_subtract_13 (by decide) (fun hc => ?_) (fun hc => ?_)
      · rw [dr_p_all hp2 hs (show n < k by omega)] at hR
        have hP := hP.sub (ws' := [(e0, .inr (3, [.ref e1, .long (lN sn)])), (e1, .inl (cL, 33, .inr (.inl (fun c => lN (u c)))))]) [0, 1] rfl
        have hD := hD.sub (ws' := [(e0, .inr (3, [.ref e1, .long (lN sn)])), (e1, .inl (cL, 33, .inr (.inl (fun c => lN (u c)))))]) [0, 1] (by decide) rfl
        exact W.vret hx hb hr (fun t ht hW => ⟨⟨u, rfl, hR, by rw [ht]; exact hP, va_K.moved hW.alike hK, hD⟩, hS.F ht⟩) hS.2.2 d_D_subtract_47
      · exact absurd ((nI_leI (by omega) (by omega)).mpr (by omega)) hc
    | succ j ih =>
      intro k u hj hR H locs hP hD hS ls hl
      refine lv_iload hx hb d_D_subtract_3 (lv_at hl 4 rfl) ?_
      refine lv_iload hx hb d_D_subtract_5 (lv_at hl 3 rfl) ?_
      refine lv_iadd hx hb d_D_subtract_7 ?_
      refine lv_topi (nm_r (show _ = nI (k + s) from nI_add k s) ?_)
      refine lv_aload_n hx hb d_D_subtract_8 rfl (lv_at hl 0 rfl) ?_
      refine va_get (D := (dC, dI)) (ci := 3) (v := .ref e1) (C := R_D) (T := F_D) (N := 2) hx hb hts in_D hown hK hP 0 rfl rfl 0 (by decide) (hts _ kw_86) (fun _ h9 => h9) rfl d_D_subtract_9 ?_
      refine va_alen (D := (dC, dI)) (v := nI 33) hx hb hK hP 1 1 rfl rfl rfl d_D_subtract_12 ?_
      refine lv_icmp_ge (tgt := 47) hx hb d_D_subtract_13 (by decide) (fun hc => ?_) (fun hc => ?_)
      · exact absurd ((nI_leI (by omega) (by omega)).mp hc) (by omega)
      · refine lv_lload_n hx hb d_D_subtract_16 rfl (lv_at hl 2 rfl) ?_
        refine lv_iload hx hb d_D_subtract_17 (lv_at hl 4 rfl) ?_
        refine lv_lushr (v := lN (p / 2 ^ k)) hx hb d_D_subtract_19 (wb_shr hp3 (by omega)) ?_
        refine lv_lconst (v := lN 1) hx hb d_D_subtract_20 (by decide) ?_
        refine lv_land hx hb d_D_subtract_21 ?_
        refine lv_topl (nm_r (show _ = lN (p / 2 ^ k % 2) from g1_and (show p / 2 ^ k < 2 ^ 64 from Nat.lt_of_le_of_lt (Nat.div_le_self _ _) hp3)) ?_)
        refine lv_lconst (v := lN 1) hx hb d_D_subtract_22 (by decide) ?_
        refine W.lcmp hx hb d_D_subtract_23 ?_
        refine lv_if_ne (tgt := 41) hx hb d_D_subtract_24 (by decide) (fun hbit => ?_) (fun hbit => ?_)
        · have hbit : ¬ p.testBit k = true := fun z => cmq_ne hbit (by rw [(tb_div p k).mp z])
          refine lv_iinc (v := nI (k + 1)) (lv' := [(6, .int (nI (k + 1))), (0, .ref e0), (1, .long (lN top)), (3, .long (lN p)), (5, .int (nI s))]) hx hb d_D_subtract_41 hl (k := 4) rfl (nI_1 k) (by decide) rfl (fun ls hl => ?_)
          refine lv_goto (tgt := 3) hx hb d_D_subtract_44 (by decide) ?_
          have hl := lv_sub (l' := [(0, .ref e0), (1, .long (lN top)), (3, .long (lN p)), (5, .int (nI s)), (6, .int (nI (k + 1)))]) hl [1, 2, 3, 4, 0] rfl
          exact ih (k + 1) u (by omega) (by rw [dr_skip hbit]; exact hR) H locs hP hD hS ls hl
        · have hbit : p.testBit k = true := (tb_div p k).mpr (lN_b1.mp (cmq_eq hbit))
          refine lv_aload_n hx hb d_D_subtract_27 rfl (lv_at hl 0 rfl) ?_
          refine va_get (D := (dC, dI)) (ci := 3) (v := .ref e1) (C := R_D) (T := F_D) (N := 2) hx hb hts in_D hown hK hP 0 rfl rfl 0 (by decide) (hts _ kw_86) (fun _ h9 => h9) rfl d_D_subtract_28 ?_
          refine lv_iload hx hb d_D_subtract_31 (lv_at hl 4 rfl) ?_
          refine lv_iload hx hb d_D_subtract_33 (lv_at hl 3 rfl) ?_
          refine lv_iadd hx hb d_D_subtract_35 ?_
          refine lv_topi (nm_r (show _ = nI (k + s) from nI_add k s) ?_)
          refine lv_dup2_11 hx hb d_D_subtract_36 rfl rfl ?_
          refine va_lald (D := (dC, dI)) hx hb hK hP 1 1 rfl rfl (vp_in_nI (by omega) (by decide)) d_D_subtract_37 ?_
          refine lv_topl (nm_r (show _ = lN (u (k + s)) from congrArg (fun c => lN (u c)) (nI_clamp (by omega))) ?_)
          refine lv_lload_n hx hb d_D_subtract_38 rfl (lv_at hl 1 rfl) ?_
          refine lv_lxor hx hb d_D_subtract_39 ?_
          refine lv_topl (nm_r (show _ = lN (u (k + s) ^^^ top) from lN_xor _ _) ?_)
          refine va_last (D := (dC, dI)) (i := (nI (k + s))) (x := (lN (u (k + s) ^^^ top))) hx hb hK hP hD hS 1 1 rfl rfl (vp_in_nI (by omega) (by decide)) d_D_subtract_40 (fun H locs hP hD hS => ?_)
          rw [nI_clamp (by omega), updL_lN] at hP hD
          have hP : va_P (dC, dI) classes [(e0, .inr (3, [.ref e1, .long (lN sn)])), (e1, .inl (cL, 33, .inr (.inl (fun c => lN ((va_up u (k + s) (u (k + s) ^^^ top)) c)))))] H := hP
          have hD : va_D A [(e0, .inr (3, [.ref e1, .long (lN sn)])), (e1, .inl (cL, 33, .inr (.inl (fun c => lN ((va_up u (k + s) (u (k + s) ^^^ top)) c)))))] := hD
          refine lv_iinc (v := nI (k + 1)) (lv' := [(6, .int (nI (k + 1))), (0, .ref e0), (1, .long (lN top)), (3, .long (lN p)), (5, .int (nI s))]) hx hb d_D_subtract_41 hl (k := 4) rfl (nI_1 k) (by decide) rfl (fun ls hl => ?_)
          refine lv_goto (tgt := 3) hx hb d_D_subtract_44 (by decide) ?_
          have hl := lv_sub (l' := [(0, .ref e0), (1, .long (lN top)), (3, .long (lN p)), (5, .int (nI s)), (6, .int (nI (k + 1)))]) hl [1, 2, 3, 4, 0] rfl
          exact ih (k + 1) (va_up u (k + s) (u (k + s) ^^^ top)) (by omega) (dr_sub hR (by omega) htop hbit (va_up_self _ _ _) (fun i _ hi => va_up_ne _ _ hi)) H locs hP hD hS ls hl
  refine lv_iconst (v := nI 0) hx hb d_D_subtract_0 (by decide) ?_
  refine lv_istore (lv' := [(6, .int (nI 0)), (0, .ref e0), (1, .long (lN top)), (3, .long (lN p)), (5, .int (nI s))]) hx hb d_D_subtract_1 hl (by decide) rfl (fun ls hl => ?_)
  have hl := lv_sub (l' := [(0, .ref e0), (1, .long (lN top)), (3, .long (lN p)), (5, .int (nI s)), (6, .int (nI 0))]) hl [1, 2, 3, 4, 0] rfl
  exact loop (33 - s) 0 rr (by omega) (dr_congr hd (fun f hf => by show (if _ then _ ^^^ 0 else _) = _; rw [Nat.xor_zero]; split <;> rfl)) _ _ hP hD hS ls hl
set_option maxHeartbeats 4000000 in
set_option maxRecDepth 100000 in
theorem c_D_reduce (l : Launch) (dC : Nat → ClassId) (dI : Nat → Nat → Nat) (cI cL : ClassId) (sz : Nat) (e0 e1 sn : Nat) (rr : Nat → Nat) (h0 p n : Nat) (hm : md p n) (DF : Nat → Nat) (hd : dr rr DF) : Met l y_D_reduce w_D_reduce ({ frames := 1, cells := 0, slots := 0, locals := 26 } : Room) (va_Pc [.ref e0, .ref h0] (wq_W (dC, dI) classes [(e0, .inr (3, [.ref e1, .long (lN sn)])), (e1, .inl (cL, 33, .inr (.inl (fun c => lN (rr c))))), (h0, .inr (1, [.long (lN p), .int (nI n), .long (lN (px_r p 2))]))] [(cI, .int), (cL, .long)] sz)) (va_Qv (fun (u : Nat → Nat) => ∃ DG : Nat → Nat, dr u DG ∧ ∀ f, f < 64 → DG f < 2 ^ n ∧ px_cg p (DG f) (DF f)) (fun (u : Nat → Nat) t => wq_B (dC, dI) classes [(cI, .int), (cL, .long)] (va_A [(e0, .inr (3, [.ref e1, .long (lN sn)])), (e1, .inl (cL, 33, .inr (.inl (fun c => lN (rr c))))), (h0, .inr (1, [.long (lN p), .int (nI n), .long (lN (px_r p 2))]))] sz) [(e0, .inr (3, [.ref e1, .long (lN sn)])), (e1, .inl (cL, 33, .inr (.inl (fun c => lN (u c))))), (h0, .inr (1, [.long (lN p), .int (nI n), .long (lN (px_r p 2))]))] t) (va_A [(e0, .inr (3, [.ref e1, .long (lN sn)])), (e1, .inl (cL, 33, .inr (.inl (fun c => lN (rr c))))), (h0, .inr (1, [.long (lN p), .int (nI n), .long (lN (px_r p 2))]))] sz)) 0 0 (va_A [(e0, .inr (3, [.ref e1, .long (lN sn)])), (e1, .inl (cL, 33, .inr (.inl (fun c => lN (rr c))))), (h0, .inr (1, [.long (lN p), .int (nI n), .long (lN (px_r p 2))]))] sz) := by
  refine Met.ofW (cc := b_D_reduce) (maxL := 5) (ret := (Option.none : Option Jvm.ClassFile.FieldType)) (by decide) rfl ?_
  intro pg en st mm ar bw me co s₁ B hml hv
  obtain ⟨rfl, hsz, hP, hK, hD0, hN⟩ := hv
  have hx := B.exec
  have hb := B.bytes
  have hr := B.returns
  have hlocks := B.notSynchronized
  have hts0 := atoms_spec (ws := w_D_reduce) B.pre
  have hts : ∀ w ∈ gw, w.before _ st = true := fun w h => hts0 w (List.mem_cons_of_mem _ h)
  have hown : st.vm.findClass R_D = some mm.cls := findClass_of_methodNamed B.named
  subst hsz
  have hD := hD0.self (sz := st.heap.size)
  generalize hAe : va_A [(e0, .inr (3, [.ref e1, .long (lN sn)])), (e1, .inl (cL, 33, .inr (.inl (fun c => lN (rr c))))), (h0, .inr (1, [.long (lN p), .int (nI n), .long (lN (px_r p 2))]))] st.heap.size = A at hD ⊢
  have hA : ∀ q : Nat, st.heap.size ≤ q → A q := fun q h => by rw [← hAe]; exact Or.inr h
  have hS : va_S A st.heap st.heap [] := va_S.rf
  have hl := lv_entry ([.ref e0, .ref h0]) (n := 5) (Nat.le_of_ble_eq_true rfl)
  rw [lg_entry_eq]
  generalize (lg_sl ([.ref e0, .ref h0]) ++ List.replicate (5 - (lg_sl ([.ref e0, .ref h0])).length) Slot.unset).toArray = ls at hl ⊢
  have hl : lv_has ls 5 [(0, .ref e0), (1, .ref h0)] := hl
  have hn := hm.2.1
  have loop : ∀ (j : Nat) (u : Nat → Nat), n + j ≤ 33 → (∃ DG : Nat → Nat, dr u DG ∧ ∀ f, f < 64 → DG f < 2 ^ (n + j) ∧ px_cg p (DG f) (DF f)) → ∀ (H : Heap) (locs : List Loc), va_P (dC, dI) classes [(e0, .inr (3, [.ref e1, .long (lN sn)])), (e1, .inl (cL, 33, .inr (.inl (fun c => lN (u c))))), (h0, .inr (1, [.long (lN p), .int (nI n), .long (lN (px_r p 2))]))] H → va_D A [(e0, .inr (3, [.ref e1, .long (lN sn)])), (e1, .inl (cL, 33, .inr (.inl (fun c => lN (u c))))), (h0, .inr (1, [.long (lN p), .int (nI n), .long (lN (px_r p 2))]))] → va_S A st.heap H locs → ∀ (ls : Array Slot), lv_has ls 5 [(0, .ref e0), (1, .ref h0), (2, .int (jm (n + j)))] → W pg l en (headSpec w_D_reduce ({ frames := 1, cells := 0, slots := 0, locals := 26 } : Room)).room st mm ([.ref e0, .ref h0] : List Value).toArray bw me co H locs 0 0 (MQ bw (va_Qv (fun (u : Nat → Nat) => ∃ DG : Nat → Nat, dr u DG ∧ ∀ f, f < 64 → DG f < 2 ^ n ∧ px_cg p (DG f) (DF f)) (fun (u : Nat → Nat) t => wq_B (dC, dI) classes [(cI, .int), (cL, .long)] A [(e0, .inr (3, [.ref e1, .long (lN sn)])), (e1, .inl (cL, 33, .inr (.inl (fun c => lN (u c))))), (h0, .inr (1, [.long (lN p), .int (nI n), .long (lN (px_r p 2))]))] t) A) ([.ref e0, .ref h0] : List Value).toArray st 0 0 A) (F0 mm 8 ls []) := by
    intro j
    induction j with
    | zero =>
      intro u hj hR H locs hP hD hS ls hl
      refine lv_iload_n hx hb d_D_reduce_8 rfl (lv_at hl 2 rfl) ?_
      refine lv_aload_n hx hb d_D_reduce_9 rfl (lv_at hl 1 rfl) ?_
      refine va_getN (D := (dC, dI)) (ci := 1) (v := .int (nI n)) (C := R_M) (T := F_M) (N := 3) hx hb hts in_M hown hK hP 2 rfl rfl 1 (by decide) (nw_use hN kw_32) (fun _ h9 => h9) rfl d_D_reduce_10 ?_
      refine lv_icmp_lt (tgt := 50) hx hb d_D_reduce_13 (by decide) (fun hc => ?_) (fun hc => ?_)
      · have hP := hP.sub (ws' := [(e0, .inr (3, [.ref e1, .long (lN sn)])), (e1, .inl (cL, 33, .inr (.inl (fun c => lN (u c))))), (h0, .inr (1, [.long (lN p), .int (nI n), .long (lN (px_r p 2))]))]) [0, 1, 2] rfl
        have hD := hD.sub (ws' := [(e0, .inr (3, [.ref e1, .long (lN sn)])), (e1, .inl (cL, 33, .inr (.inl (fun c => lN (u c))))), (h0, .inr (1, [.long (lN p), .int (nI n), .long (lN (px_r p 2))]))]) [0, 1, 2] (by decide) rfl
        exact W.vret hx hb hr (fun t ht hW => ⟨⟨u, rfl, hR, by rw [ht]; exact hP, va_K.moved hW.alike hK, hD⟩, hS.F ht⟩) hS.2.2 d_D_reduce_50
      · exact absurd ((jm_lt (by omega) (by omega)).mpr (by omega)) hc
    | succ j ih =>
      intro u hj hR H locs hP hD hS ls hl
      obtain ⟨DG, hdG, hG⟩ := hR
      refine lv_iload_n hx hb d_D_reduce_8 rfl (lv_at hl 2 rfl) ?_
      refine lv_aload_n hx hb d_D_reduce_9 rfl (lv_at hl 1 rfl) ?_
      refine va_getN (D := (dC, dI)) (ci := 1) (v := .int (nI n)) (C := R_M) (T := F_M) (N := 3) hx hb hts in_M hown hK hP 2 rfl rfl 1 (by decide) (nw_use hN kw_32) (fun _ h9 => h9) rfl d_D_reduce_10 ?_
      refine lv_icmp_lt (tgt := 50) hx hb d_D_reduce_13 (by decide) (fun hc => ?_) (fun hc => ?_)
      · exact absurd ((jm_lt (by omega) (by omega)).mp hc) (by omega)
      · have e9 : (jm (n + j + 1)) = (nI (n + j)) := jm_succ (n + j)
        have hl : lv_has ls 5 [(0, .ref e0), (1, .ref h0), (2, .int (nI (n + j)))] := by rw [← e9]; exact hl
        refine lv_aload_n hx hb d_D_reduce_16 rfl (lv_at hl 0 rfl) ?_
        refine va_get (D := (dC, dI)) (ci := 3) (v := .ref e1) (C := R_D) (T := F_D) (N := 2) hx hb hts in_D hown hK hP 0 rfl rfl 0 (by decide) (hts _ kw_86) (fun _ h9 => h9) rfl d_D_reduce_17 ?_
        refine lv_iload_n hx hb d_D_reduce_20 rfl (lv_at hl 2 rfl) ?_
        refine va_lald (D := (dC, dI)) hx hb hK hP 1 1 rfl rfl (vp_in_nI (by omega) (by decide)) d_D_reduce_21 ?_
        refine lv_topl (nm_r (show _ = lN (u (n + j)) from congrArg (fun c => lN (u c)) (nI_clamp (by omega))) ?_)
        refine lv_lstore_n (lv' := [(3, .long (lN (u (n + j)))), (0, .ref e0), (1, .ref h0), (2, .int (nI (n + j)))]) hx hb d_D_reduce_22 rfl hl (by decide) rfl (fun ls hl => ?_)
        refine lv_lload_n hx hb d_D_reduce_23 rfl (lv_at hl 0 rfl) ?_
        refine lv_lconst (v := lN 0) hx hb d_D_reduce_24 (by decide) ?_
        refine W.lcmp hx hb d_D_reduce_25 ?_
        refine lv_if_eq (tgt := 44) hx hb d_D_reduce_26 (by decide) (fun hz => ?_) (fun hz => ?_)
        · have hz : u (n + j) = 0 := (lN_eqI (b := 0) (hdG.1 _ (by omega)) (by decide)).mp (cmq_eq hz)
          refine lv_iinc (v := jm (n + j)) (lv' := [(2, .int (jm (n + j))), (3, .long (lN (u (n + j)))), (0, .ref e0), (1, .ref h0)]) hx hb d_D_reduce_44 hl (k := 3) rfl (jm_dec (n + j)) (by decide) rfl (fun ls hl => ?_)
          refine lv_goto (tgt := 8) hx hb d_D_reduce_47 (by decide) ?_
          have hl := lv_sub (l' := [(0, .ref e0), (1, .ref h0), (2, .int (jm (n + j)))]) hl [2, 3, 0] rfl
          have hnew : ∃ D1 : Nat → Nat, dr u D1 ∧ ∀ f, f < 64 → D1 f < 2 ^ (n + j) ∧ px_cg p (D1 f) (DF f) := by
            obtain ⟨D1, g1, g2⟩ := dr_red (r' := u) hm hdG (Nat.le_add_right n j) (by omega) (fun f hf => (hG f hf).1) (dr_congr hdG (fun f hf => by rw [hz]; simp))
            exact ⟨D1, g1, fun f hf => ⟨(g2 f hf).1, px_cg_trans (g2 f hf).2 (hG f hf).2⟩⟩
          exact ih u (by omega) hnew H locs hP hD hS ls hl
        · refine lv_aload_n hx hb d_D_reduce_29 rfl (lv_at hl 1 rfl) ?_
          refine lv_lload_n hx hb d_D_reduce_30 rfl (lv_at hl 0 rfl) ?_
          refine lv_aload_n hx hb d_D_reduce_31 rfl (lv_at hl 2 rfl) ?_
          refine va_getN (D := (dC, dI)) (ci := 1) (v := .long (lN p)) (C := R_M) (T := F_M) (N := 3) hx hb hts in_M hown hK hP 2 rfl rfl 0 (by decide) (nw_use hN kw_30) (fun _ h9 => h9) rfl d_D_reduce_32 ?_
          refine lv_iload_n hx hb d_D_reduce_35 rfl (lv_at hl 3 rfl) ?_
          refine lv_aload_n hx hb d_D_reduce_36 rfl (lv_at hl 2 rfl) ?_
          refine va_getN (D := (dC, dI)) (ci := 1) (v := .int (nI n)) (C := R_M) (T := F_M) (N := 3) hx hb hts in_M hown hK hP 2 rfl rfl 1 (by decide) (nw_use hN kw_32) (fun _ h9 => h9) rfl d_D_reduce_37 ?_
          refine lv_isub hx hb d_D_reduce_40 ?_
          refine lv_topi (nm_r (show _ = nI (n + j - n) from pk_sub (Nat.le_add_right n j)) ?_)
          refine wq_v (wr := [(h0, .inr (1, [.long (lN p), .int (nI n), .long (lN (px_r p 2))]))]) (va_runV (As := [.long (lN (u (n + j))), .long (lN p), .int (nI (n + j - n))]) (rest := []) ⟨hx, hb, hml, hown, hts⟩ (c_D_subtract l dC dI cI cL H.size e0 e1 sn u (u (n + j)) p n (n + j - n) DG (hdG.1 _ (by omega)) hm.2.2.2.1 (by omega) hdG) (cwV 3 hts (gi_V kw_497 kw_499 ks_D_subtract kw_4 gi_D_subtract) rfl rfl rfl ⟨rfl, by decide, by decide, by decide⟩ ⟨Nat.le_of_ble_eq_true rfl, Nat.le_of_ble_eq_true rfl⟩) (wq_preVW hP hD hK hN [0, 1] rfl rfl (q0 := 0) (ci := 3) rfl rfl rfl) rfl rfl hl.1 rfl (lv_room (Nat.le_of_ble_eq_true rfl)) d_D_reduce_41 ⟨Nat.le_of_ble_eq_true rfl, Nat.le_of_ble_eq_true rfl⟩) hP hD hS hA [0, 1] [2] rfl rfl rfl (by decide) (fun u2 H locs hq2 hP hD hS hz => ?_)
          have hP : va_P (dC, dI) classes [(h0, .inr (1, [.long (lN p), .int (nI n), .long (lN (px_r p 2))])), (e0, .inr (3, [.ref e1, .long (lN sn)])), (e1, .inl (cL, 33, .inr (.inl (fun c => lN (u2 c)))))] H := hP
          have hD : va_D A [(h0, .inr (1, [.long (lN p), .int (nI n), .long (lN (px_r p 2))])), (e0, .inr (3, [.ref e1, .long (lN sn)])), (e1, .inl (cL, 33, .inr (.inl (fun c => lN (u2 c)))))] := hD
          have hP := hP.sub (ws' := [(e0, .inr (3, [.ref e1, .long (lN sn)])), (e1, .inl (cL, 33, .inr (.inl (fun c => lN (u2 c))))), (h0, .inr (1, [.long (lN p), .int (nI n), .long (lN (px_r p 2))]))]) [1, 2, 0] rfl
          have hD := hD.sub (ws' := [(e0, .inr (3, [.ref e1, .long (lN sn)])), (e1, .inl (cL, 33, .inr (.inl (fun c => lN (u2 c))))), (h0, .inr (1, [.long (lN p), .int (nI n), .long (lN (px_r p 2))]))]) [1, 2, 0] (by decide) rfl
          refine lv_iinc (v := jm (n + j)) (lv' := [(2, .int (jm (n + j))), (3, .long (lN (u (n + j)))), (0, .ref e0), (1, .ref h0)]) hx hb d_D_reduce_44 hl (k := 3) rfl (jm_dec (n + j)) (by decide) rfl (fun ls hl => ?_)
          refine lv_goto (tgt := 8) hx hb d_D_reduce_47 (by decide) ?_
          have hl := lv_sub (l' := [(0, .ref e0), (1, .ref h0), (2, .int (jm (n + j)))]) hl [2, 3, 0] rfl
          have hnew : ∃ D1 : Nat → Nat, dr u2 D1 ∧ ∀ f, f < 64 → D1 f < 2 ^ (n + j) ∧ px_cg p (D1 f) (DF f) := by
            obtain ⟨D1, g1, g2⟩ := dr_red (r' := u2) hm hdG (Nat.le_add_right n j) (by omega) (fun f hf => (hG f hf).1) hq2
            exact ⟨D1, g1, fun f hf => ⟨(g2 f hf).1, px_cg_trans (g2 f hf).2 (hG f hf).2⟩⟩
          exact ih u2 (by omega) hnew H locs hP hD hS ls hl
  refine lv_aload_n hx hb d_D_reduce_0 rfl (lv_at hl 0 rfl) ?_
  refine va_get (D := (dC, dI)) (ci := 3) (v := .ref e1) (C := R_D) (T := F_D) (N := 2) hx hb hts in_D hown hK hP 0 rfl rfl 0 (by decide) (hts _ kw_86) (fun _ h9 => h9) rfl d_D_reduce_1 ?_
  refine va_alen (D := (dC, dI)) (v := nI 33) hx hb hK hP 1 1 rfl rfl rfl d_D_reduce_4 ?_
  refine lv_iconst (v := nI 1) hx hb d_D_reduce_5 (by decide) ?_
  refine lv_isub hx hb d_D_reduce_6 ?_
  refine lv_topi (nm_r (show _ = jm (n + (33 - n)) from by rw [show n + (33 - n) = 33 by omega]; decide) ?_)
  refine lv_istore_n (lv' := [(2, .int (jm (n + (33 - n)))), (0, .ref e0), (1, .ref h0)]) hx hb d_D_reduce_7 rfl hl (by decide) rfl (fun ls hl => ?_)
  have hl := lv_sub (l' := [(0, .ref e0), (1, .ref h0), (2, .int (jm (n + (33 - n))))]) hl [1, 2, 0] rfl
  exact loop (33 - n) rr (by omega) ⟨DF, hd, fun f hf => ⟨by rw [show n + (33 - n) = 33 by omega]; exact (hd.2 f hf).1, px_cg_refl _ _⟩⟩ _ _ hP hD hS ls hl
set_option maxHeartbeats 4000000 in
set_option maxRecDepth 100000 in
theorem c_D_addAnswers (l : Launch) (dC : Nat → ClassId) (dI : Nat → Nat → Nat) (cI cL : ClassId) (sz : Nat) (e0 e1 sn : Nat) (rr : Nat → Nat) (h0 k1 k2 k3 k4 k5 : Nat) (cc gc oc : Nat) (kd lf rg ol vv : Nat → Nat) (hk : ck cc gc oc kd lf rg ol) (pt : Nat) (hpt : pt < 2 ^ 32) (DF : Nat → Nat) (hd : dr rr DF) (hsn : sn < 2 ^ 64) : Met l y_D_addAnswers w_D_addAnswers ({ frames := 3, cells := 0, slots := 0, locals := 77 } : Room) (va_Pc [.ref e0, .ref h0, .int (nI pt)] (wq_W (dC, dI) classes [(e0, .inr (3, [.ref e1, .long (lN sn)])), (e1, .inl (cL, 33, .inr (.inl (fun c => lN (rr c))))), (h0, .inr (2, [.ref k1, .ref k2, .ref k3, .ref k4, .ref k5, .int (nI cc), .int (nI gc), .int (nI oc)])), (k1, .inl (cI, 24, .inl (fun c => nI (kd c)))), (k2, .inl (cI, 24, .inl (fun c => nI (lf c)))), (k3, .inl (cI, 24, .inl (fun c => nI (rg c)))), (k4, .inl (cI, 16, .inl (fun c => nI (ol c)))), (k5, .inl (cL, 32, .inr (.inl (fun c => lN (vv c)))))] [(cI, .int), (cL, .long)] sz)) (va_Qv (fun (u : (Nat → Nat) × Nat × (Nat → Nat)) => dr u.1 (fun f => DF f ^^^ (ci_a ol (ci_t cc kd lf rg pt (some f) (cc + gc)) oc ^^^ ci_a ol (ci_t cc kd lf rg pt none (cc + gc)) oc)) ∧ u.2.1 < 2 ^ 64 ∧ ∀ f, f < 64 → (u.2.1.testBit f = true ↔ sn.testBit f = true ∨ ci_a ol (ci_t cc kd lf rg pt (some f) (cc + gc)) oc ≠ ci_a ol (ci_t cc kd lf rg pt none (cc + gc)) oc)) (fun (u : (Nat → Nat) × Nat × (Nat → Nat)) t => wq_B (dC, dI) classes [(cI, .int), (cL, .long)] (va_A [(e0, .inr (3, [.ref e1, .long (lN sn)])), (e1, .inl (cL, 33, .inr (.inl (fun c => lN (rr c))))), (h0, .inr (2, [.ref k1, .ref k2, .ref k3, .ref k4, .ref k5, .int (nI cc), .int (nI gc), .int (nI oc)])), (k1, .inl (cI, 24, .inl (fun c => nI (kd c)))), (k2, .inl (cI, 24, .inl (fun c => nI (lf c)))), (k3, .inl (cI, 24, .inl (fun c => nI (rg c)))), (k4, .inl (cI, 16, .inl (fun c => nI (ol c)))), (k5, .inl (cL, 32, .inr (.inl (fun c => lN (vv c)))))] sz) [(e0, .inr (3, [.ref e1, .long (lN ((u).2.1))])), (e1, .inl (cL, 33, .inr (.inl (fun c => lN ((u).1 c))))), (h0, .inr (2, [.ref k1, .ref k2, .ref k3, .ref k4, .ref k5, .int (nI cc), .int (nI gc), .int (nI oc)])), (k1, .inl (cI, 24, .inl (fun c => nI (kd c)))), (k2, .inl (cI, 24, .inl (fun c => nI (lf c)))), (k3, .inl (cI, 24, .inl (fun c => nI (rg c)))), (k4, .inl (cI, 16, .inl (fun c => nI (ol c)))), (k5, .inl (cL, 32, .inr (.inl (fun c => lN ((u).2.2 c)))))] t) (va_A [(e0, .inr (3, [.ref e1, .long (lN sn)])), (e1, .inl (cL, 33, .inr (.inl (fun c => lN (rr c))))), (h0, .inr (2, [.ref k1, .ref k2, .ref k3, .ref k4, .ref k5, .int (nI cc), .int (nI gc), .int (nI oc)])), (k1, .inl (cI, 24, .inl (fun c => nI (kd c)))), (k2, .inl (cI, 24, .inl (fun c => nI (lf c)))), (k3, .inl (cI, 24, .inl (fun c => nI (rg c)))), (k4, .inl (cI, 16, .inl (fun c => nI (ol c)))), (k5, .inl (cL, 32, .inr (.inl (fun c => lN (vv c)))))] sz)) 0 0 (va_A [(e0, .inr (3, [.ref e1, .long (lN sn)])), (e1, .inl (cL, 33, .inr (.inl (fun c => lN (rr c))))), (h0, .inr (2, [.ref k1, .ref k2, .ref k3, .ref k4, .ref k5, .int (nI cc), .int (nI gc), .int (nI oc)])), (k1, .inl (cI, 24, .inl (fun c => nI (kd c)))), (k2, .inl (cI, 24, .inl (fun c => nI (lf c)))), (k3, .inl (cI, 24, .inl (fun c => nI (rg c)))), (k4, .inl (cI, 16, .inl (fun c => nI (ol c)))), (k5, .inl (cL, 32, .inr (.inl (fun c => lN (vv c)))))] sz) := by
  refine Met.ofW (cc := b_D_addAnswers) (maxL := 7) (ret := (Option.none : Option Jvm.ClassFile.FieldType)) (by decide) rfl ?_
  intro pg en st mm ar bw me co s₁ B hml hv
  obtain ⟨rfl, hsz, hP, hK, hD0, hN⟩ := hv
  have hx := B.exec
  have hb := B.bytes
  have hr := B.returns
  have hlocks := B.notSynchronized
  have hts0 := atoms_spec (ws := w_D_addAnswers) B.pre
  have hts : ∀ w ∈ gw, w.before _ st = true := fun w h => hts0 w (List.mem_cons_of_mem _ h)
  have hown : st.vm.findClass R_D = some mm.cls := findClass_of_methodNamed B.named
  subst hsz
  have hD := hD0.self (sz := st.heap.size)
  generalize hAe : va_A [(e0, .inr (3, [.ref e1, .long (lN sn)])), (e1, .inl (cL, 33, .inr (.inl (fun c => lN (rr c))))), (h0, .inr (2, [.ref k1, .ref k2, .ref k3, .ref k4, .ref k5, .int (nI cc), .int (nI gc), .int (nI oc)])), (k1, .inl (cI, 24, .inl (fun c => nI (kd c)))), (k2, .inl (cI, 24, .inl (fun c => nI (lf c)))), (k3, .inl (cI, 24, .inl (fun c => nI (rg c)))), (k4, .inl (cI, 16, .inl (fun c => nI (ol c)))), (k5, .inl (cL, 32, .inr (.inl (fun c => lN (vv c)))))] st.heap.size = A at hD ⊢
  have hA : ∀ q : Nat, st.heap.size ≤ q → A q := fun q h => by rw [← hAe]; exact Or.inr h
  have hS : va_S A st.heap st.heap [] := va_S.rf
  have hl := lv_entry ([.ref e0, .ref h0, .int (nI pt)]) (n := 7) (Nat.le_of_ble_eq_true rfl)
  rw [lg_entry_eq]
  generalize (lg_sl ([.ref e0, .ref h0, .int (nI pt)]) ++ List.replicate (7 - (lg_sl ([.ref e0, .ref h0, .int (nI pt)])).length) Slot.unset).toArray = ls at hl ⊢
  have hl : lv_has ls 7 [(0, .ref e0), (1, .ref h0), (2, .int (nI pt))] := hl
  have h1 := hk.1
  have h2 := hk.2.1
  have h3 := hk.2.2.1
  have hav := ci_a_lt ol (ci_t cc kd lf rg pt none (cc + gc)) oc
  have hav2 : 2 ^ oc ≤ 2 ^ 16 := Nat.pow_le_pow_right (by decide) h3
  refine lv_aload_n hx hb d_D_addAnswers_0 rfl (lv_at hl 1 rfl) ?_
  refine lv_iload_n hx hb d_D_addAnswers_1 rfl (lv_at hl 2 rfl) ?_
  refine lv_iconst (v := (-1)) hx hb d_D_addAnswers_2 (by decide) ?_
  refine wq_i (wr := [(e0, .inr (3, [.ref e1, .long (lN sn)])), (e1, .inl (cL, 33, .inr (.inl (fun c => lN (rr c)))))]) (va_runVN (As := [.int (nI pt), .int (-1)]) (rest := []) ⟨hx, hb, hml, hown, hts⟩ (c_C_answerToN l dC dI cI cL st.heap.size h0 k1 k2 k3 k4 k5 cc gc oc kd lf rg ol vv hk pt hpt) ⟨va_cnB 2 hts gi_C_answerTo rfl rfl rfl (hN _ kw_489) (hts _ kw_3) ⟨by decide, by decide, by decide⟩ ⟨Nat.le_of_ble_eq_true rfl, Nat.le_of_ble_eq_true rfl⟩, hts _ kw_431, hts _ ks_C_answerTo⟩ (wq_preVW hP hD hK hN [2, 3, 4, 5, 6, 7] rfl rfl (q0 := 2) (ci := 2) rfl rfl rfl) rfl rfl hl.1 rfl (lv_room (Nat.le_of_ble_eq_true rfl)) d_D_addAnswers_3 ⟨Nat.le_of_ble_eq_true rfl, Nat.le_of_ble_eq_true rfl⟩) hP hD hS hA [2, 3, 4, 5, 6, 7] [0, 1] rfl rfl rfl (by decide) (fun r u0 H locs hq hP hD hS hz => ?_)
  have hP : va_P (dC, dI) classes [(e0, .inr (3, [.ref e1, .long (lN sn)])), (e1, .inl (cL, 33, .inr (.inl (fun c => lN (rr c))))), (h0, .inr (2, [.ref k1, .ref k2, .ref k3, .ref k4, .ref k5, .int (nI cc), .int (nI gc), .int (nI oc)])), (k1, .inl (cI, 24, .inl (fun c => nI (kd c)))), (k2, .inl (cI, 24, .inl (fun c => nI (lf c)))), (k3, .inl (cI, 24, .inl (fun c => nI (rg c)))), (k4, .inl (cI, 16, .inl (fun c => nI (ol c)))), (k5, .inl (cL, 32, .inr (.inl (fun c => lN (u0 c)))))] H := hP
  have hD : va_D A [(e0, .inr (3, [.ref e1, .long (lN sn)])), (e1, .inl (cL, 33, .inr (.inl (fun c => lN (rr c))))), (h0, .inr (2, [.ref k1, .ref k2, .ref k3, .ref k4, .ref k5, .int (nI cc), .int (nI gc), .int (nI oc)])), (k1, .inl (cI, 24, .inl (fun c => nI (kd c)))), (k2, .inl (cI, 24, .inl (fun c => nI (lf c)))), (k3, .inl (cI, 24, .inl (fun c => nI (rg c)))), (k4, .inl (cI, 16, .inl (fun c => nI (ol c)))), (k5, .inl (cL, 32, .inr (.inl (fun c => lN (u0 c)))))] := hD
  subst hq
  refine lv_istore_n (lv' := [(3, .int (nI (ci_a ol (ci_t cc kd lf rg pt none (cc + gc)) oc))), (0, .ref e0), (1, .ref h0), (2, .int (nI pt))]) hx hb d_D_addAnswers_6 rfl hl (by decide) rfl (fun ls hl => ?_)
  refine lv_aload_n hx hb d_D_addAnswers_7 rfl (lv_at hl 2 rfl) ?_
  refine lv_iload_n hx hb d_D_addAnswers_8 rfl (lv_at hl 3 rfl) ?_
  refine lv_iconst (v := nI 1) hx hb d_D_addAnswers_9 (by decide) ?_
  refine wq_v (wr := [(e0, .inr (3, [.ref e1, .long (lN sn)])), (e1, .inl (cL, 33, .inr (.inl (fun c => lN (rr c))))), (k4, .inl (cI, 16, .inl (fun c => nI (ol c))))]) (va_runVN (As := [.int (nI pt), .int (nI 1)]) (rest := []) ⟨hx, hb, hml, hown, hts⟩ (c_C_settleF l dC dI cI cL H.size h0 k1 k2 k3 k4 k5 cc gc oc kd lf rg ol u0 hk pt hpt) ⟨va_cnB 2 hts gi_C_settle rfl rfl rfl (hN _ kw_490) (hts _ kw_3) ⟨by decide, by decide, by decide⟩ ⟨Nat.le_of_ble_eq_true rfl, Nat.le_of_ble_eq_true rfl⟩, hts _ kw_435, hts _ ks_C_settle⟩ (wq_preVW hP hD hK hN [2, 3, 4, 5, 7] rfl rfl (q0 := 2) (ci := 2) rfl rfl rfl) rfl rfl hl.1 rfl (lv_room (Nat.le_of_ble_eq_true rfl)) d_D_addAnswers_10 ⟨Nat.le_of_ble_eq_true rfl, Nat.le_of_ble_eq_true rfl⟩) hP hD hS hA [2, 3, 4, 5, 7] [0, 1, 6] rfl rfl rfl (by decide) (fun v H locs hR hP hD hS hz => ?_)
  have hP : va_P (dC, dI) classes [(e0, .inr (3, [.ref e1, .long (lN sn)])), (e1, .inl (cL, 33, .inr (.inl (fun c => lN (rr c))))), (k4, .inl (cI, 16, .inl (fun c => nI (ol c)))), (h0, .inr (2, [.ref k1, .ref k2, .ref k3, .ref k4, .ref k5, .int (nI cc), .int (nI gc), .int (nI oc)])), (k1, .inl (cI, 24, .inl (fun c => nI (kd c)))), (k2, .inl (cI, 24, .inl (fun c => nI (lf c)))), (k3, .inl (cI, 24, .inl (fun c => nI (rg c)))), (k5, .inl (cL, 32, .inr (.inl (fun c => lN (v c)))))] H := hP
  have hD : va_D A [(e0, .inr (3, [.ref e1, .long (lN sn)])), (e1, .inl (cL, 33, .inr (.inl (fun c => lN (rr c))))), (k4, .inl (cI, 16, .inl (fun c => nI (ol c)))), (h0, .inr (2, [.ref k1, .ref k2, .ref k3, .ref k4, .ref k5, .int (nI cc), .int (nI gc), .int (nI oc)])), (k1, .inl (cI, 24, .inl (fun c => nI (kd c)))), (k2, .inl (cI, 24, .inl (fun c => nI (lf c)))), (k3, .inl (cI, 24, .inl (fun c => nI (rg c)))), (k5, .inl (cL, 32, .inr (.inl (fun c => lN (v c)))))] := hD
  refine lv_iconst (v := nI 0) hx hb d_D_addAnswers_13 (by decide) ?_
  refine lv_istore (lv' := [(4, .int (nI 0)), (3, .int (nI (ci_a ol (ci_t cc kd lf rg pt none (cc + gc)) oc))), (0, .ref e0), (1, .ref h0), (2, .int (nI pt))]) hx hb d_D_addAnswers_14 hl (by decide) rfl (fun ls hl => ?_)
  have hP := hP.sub (ws' := [(e0, .inr (3, [.ref e1, .long (lN sn)])), (e1, .inl (cL, 33, .inr (.inl (fun c => lN (rr c))))), (h0, .inr (2, [.ref k1, .ref k2, .ref k3, .ref k4, .ref k5, .int (nI cc), .int (nI gc), .int (nI oc)])), (k1, .inl (cI, 24, .inl (fun c => nI (kd c)))), (k2, .inl (cI, 24, .inl (fun c => nI (lf c)))), (k3, .inl (cI, 24, .inl (fun c => nI (rg c)))), (k4, .inl (cI, 16, .inl (fun c => nI (ol c)))), (k5, .inl (cL, 32, .inr (.inl (fun c => lN (v c)))))]) [0, 1, 3, 4, 5, 6, 2, 7] rfl
  have hD := hD.sub (ws' := [(e0, .inr (3, [.ref e1, .long (lN sn)])), (e1, .inl (cL, 33, .inr (.inl (fun c => lN (rr c))))), (h0, .inr (2, [.ref k1, .ref k2, .ref k3, .ref k4, .ref k5, .int (nI cc), .int (nI gc), .int (nI oc)])), (k1, .inl (cI, 24, .inl (fun c => nI (kd c)))), (k2, .inl (cI, 24, .inl (fun c => nI (lf c)))), (k3, .inl (cI, 24, .inl (fun c => nI (rg c)))), (k4, .inl (cI, 16, .inl (fun c => nI (ol c)))), (k5, .inl (cL, 32, .inr (.inl (fun c => lN (v c)))))]) [0, 1, 3, 4, 5, 6, 2, 7] (by decide) rfl
  have loop : ∀ (j i : Nat) (r2 : Nat → Nat) (s2 : Nat), j + i = oc → aa_I ol (fun f => ci_t cc kd lf rg pt (some f) (cc + gc)) (ci_t cc kd lf rg pt none (cc + gc)) DF sn i r2 s2 → ∀ (H : Heap) (locs : List Loc), va_P (dC, dI) classes [(e0, .inr (3, [.ref e1, .long (lN s2)])), (e1, .inl (cL, 33, .inr (.inl (fun c => lN (r2 c))))), (h0, .inr (2, [.ref k1, .ref k2, .ref k3, .ref k4, .ref k5, .int (nI cc), .int (nI gc), .int (nI oc)])), (k1, .inl (cI, 24, .inl (fun c => nI (kd c)))), (k2, .inl (cI, 24, .inl (fun c => nI (lf c)))), (k3, .inl (cI, 24, .inl (fun c => nI (rg c)))), (k4, .inl (cI, 16, .inl (fun c => nI (ol c)))), (k5, .inl (cL, 32, .inr (.inl (fun c => lN (v c)))))] H → va_D A [(e0, .inr (3, [.ref e1, .long (lN s2)])), (e1, .inl (cL, 33, .inr (.inl (fun c => lN (r2 c))))), (h0, .inr (2, [.ref k1, .ref k2, .ref k3, .ref k4, .ref k5, .int (nI cc), .int (nI gc), .int (nI oc)])), (k1, .inl (cI, 24, .inl (fun c => nI (kd c)))), (k2, .inl (cI, 24, .inl (fun c => nI (lf c)))), (k3, .inl (cI, 24, .inl (fun c => nI (rg c)))), (k4, .inl (cI, 16, .inl (fun c => nI (ol c)))), (k5, .inl (cL, 32, .inr (.inl (fun c => lN (v c)))))] → va_S A st.heap H locs → ∀ (ls : Array Slot), lv_has ls 7 [(0, .ref e0), (1, .ref h0), (3, .int (nI (ci_a ol (ci_t cc kd lf rg pt none (cc + gc)) oc))), (4, .int (nI i))] → W pg l en (headSpec w_D_addAnswers ({ frames := 3, cells := 0, slots := 0, locals := 77 } : Room)).room st mm ([.ref e0, .ref h0, .int (nI pt)] : List Value).toArray bw me co H locs 0 0 (MQ bw (va_Qv (fun (u : (Nat → Nat) × Nat × (Nat → Nat)) => dr u.1 (fun f => DF f ^^^ (ci_a ol (ci_t cc kd lf rg pt (some f) (cc + gc)) oc ^^^ ci_a ol (ci_t cc kd lf rg pt none (cc + gc)) oc)) ∧ u.2.1 < 2 ^ 64 ∧ ∀ f, f < 64 → (u.2.1.testBit f = true ↔ sn.testBit f = true ∨ ci_a ol (ci_t cc kd lf rg pt (some f) (cc + gc)) oc ≠ ci_a ol (ci_t cc kd lf rg pt none (cc + gc)) oc)) (fun (u : (Nat → Nat) × Nat × (Nat → Nat)) t => wq_B (dC, dI) classes [(cI, .int), (cL, .long)] A [(e0, .inr (3, [.ref e1, .long (lN ((u).2.1))])), (e1, .inl (cL, 33, .inr (.inl (fun c => lN ((u).1 c))))), (h0, .inr (2, [.ref k1, .ref k2, .ref k3, .ref k4, .ref k5, .int (nI cc), .int (nI gc), .int (nI oc)])), (k1, .inl (cI, 24, .inl (fun c => nI (kd c)))), (k2, .inl (cI, 24, .inl (fun c => nI (lf c)))), (k3, .inl (cI, 24, .inl (fun c => nI (rg c)))), (k4, .inl (cI, 16, .inl (fun c => nI (ol c)))), (k5, .inl (cL, 32, .inr (.inl (fun c => lN ((u).2.2 c)))))] t) A) ([.ref e0, .ref h0, .int (nI pt)] : List Value).toArray st 0 0 A) (F0 mm 16 ls []) := by
    intro j
    induction j with
    | zero =>
      intro i r2 s2 hj hI H locs hP hD hS ls hl
      refine lv_iload hx hb d_D_addAnswers_16 (lv_at hl 3 rfl) ?_
      refine lv_aload_n hx hb d_D_addAnswers_18 rfl (lv_at hl 1 rfl) ?_
      refine va_getN (D := (dC, dI)) (ci := 2) (v := .int (nI oc)) (C := R_C) (T := F_C) (N := 8) hx hb hts in_C hown hK hP 2 rfl rfl 7 (by decide) (nw_use hN kw_59) (fun _ h9 => h9) rfl d_D_addAnswers_19 ?_
      refine lv_icmp_ge (tgt := 70) hx hb d_D_addAnswers_22 (by decide) (fun hc => ?_) (fun hc => ?_)
      · have hi : oc = i := by omega
        rw [← hi] at hI
        have hP := hP.sub (ws' := [(e0, .inr (3, [.ref e1, .long (lN s2)])), (e1, .inl (cL, 33, .inr (.inl (fun c => lN (r2 c))))), (h0, .inr (2, [.ref k1, .ref k2, .ref k3, .ref k4, .ref k5, .int (nI cc), .int (nI gc), .int (nI oc)])), (k1, .inl (cI, 24, .inl (fun c => nI (kd c)))), (k2, .inl (cI, 24, .inl (fun c => nI (lf c)))), (k3, .inl (cI, 24, .inl (fun c => nI (rg c)))), (k4, .inl (cI, 16, .inl (fun c => nI (ol c)))), (k5, .inl (cL, 32, .inr (.inl (fun c => lN (v c)))))]) [0, 1, 2, 3, 4, 5, 6, 7] rfl
        have hD := hD.sub (ws' := [(e0, .inr (3, [.ref e1, .long (lN s2)])), (e1, .inl (cL, 33, .inr (.inl (fun c => lN (r2 c))))), (h0, .inr (2, [.ref k1, .ref k2, .ref k3, .ref k4, .ref k5, .int (nI cc), .int (nI gc), .int (nI oc)])), (k1, .inl (cI, 24, .inl (fun c => nI (kd c)))), (k2, .inl (cI, 24, .inl (fun c => nI (lf c)))), (k3, .inl (cI, 24, .inl (fun c => nI (rg c)))), (k4, .inl (cI, 16, .inl (fun c => nI (ol c)))), (k5, .inl (cL, 32, .inr (.inl (fun c => lN (v c)))))]) [0, 1, 2, 3, 4, 5, 6, 7] (by decide) rfl
        exact W.vret hx hb hr (fun t ht hW => ⟨⟨(r2, s2, v), rfl, aa_end hI, by rw [ht]; exact hP, va_K.moved hW.alike hK, hD⟩, hS.F ht⟩) hS.2.2 d_D_addAnswers_70
      · exact absurd ((nI_leI (by omega) (by omega)).mpr (by omega)) hc
    | succ j ih =>
      intro i r2 s2 hj hI H locs hP hD hS ls hl
      have hol := hk.2.2.2.2 i (by omega)
      obtain ⟨hv3, hbit⟩ := hR (ol i) hol
      generalize hwe : v (ol i) ^^^ ci_p ((ci_a ol (ci_t cc kd lf rg pt none (cc + gc)) oc / 2 ^ i).testBit 0) = wd
      have hwd : wd < 2 ^ 64 := by rw [← hwe]; exact Nat.xor_lt_two_pow hv3 (ci_p_lt _)
      have hwb : ∀ f, f < 64 → wd.testBit f = ((fun f => ci_t cc kd lf rg pt (some f) (cc + gc)) f (ol i) ^^ (ci_t cc kd lf rg pt none (cc + gc)) (ol i)) := fun f hf => by rw [← hwe]; exact aa_w hf (hbit f hf) (show i < oc by omega) rfl
      refine lv_iload hx hb d_D_addAnswers_16 (lv_at hl 3 rfl) ?_
      refine lv_aload_n hx hb d_D_addAnswers_18 rfl (lv_at hl 1 rfl) ?_
      refine va_getN (D := (dC, dI)) (ci := 2) (v := .int (nI oc)) (C := R_C) (T := F_C) (N := 8) hx hb hts in_C hown hK hP 2 rfl rfl 7 (by decide) (nw_use hN kw_59) (fun _ h9 => h9) rfl d_D_addAnswers_19 ?_
      refine lv_icmp_ge (tgt := 70) hx hb d_D_addAnswers_22 (by decide) (fun hc => ?_) (fun hc => ?_)
      · exact absurd ((nI_leI (by omega) (by omega)).mp hc) (by omega)
      · refine lv_aload_n hx hb d_D_addAnswers_25 rfl (lv_at hl 1 rfl) ?_
        refine lv_iload hx hb d_D_addAnswers_26 (lv_at hl 3 rfl) ?_
        refine vp_callSl (va_Run.run (va_runVN (As := [.int (nI i)]) (rest := []) ⟨hx, hb, hml, hown, hts⟩ (c_C_valuesOfOutput l dC dI cI cL h0 k1 k2 k3 k4 k5 cc gc oc kd lf rg ol v hk i (by omega)) ⟨va_cnB 1 hts gi_C_valuesOfOutput rfl rfl rfl (hN _ kw_491) (hts _ kw_3) ⟨by decide, by decide, by decide⟩ ⟨Nat.le_of_ble_eq_true rfl, Nat.le_of_ble_eq_true rfl⟩, hts _ kw_450, hts _ ks_C_valuesOfOutput⟩ (wq_preVR hP hK hN [2, 6, 7] rfl (q0 := 2) (ci := 2) rfl rfl rfl) rfl rfl hl.1 rfl (lv_room (Nat.le_of_ble_eq_true rfl)) d_D_addAnswers_28 ⟨Nat.le_of_ble_eq_true rfl, Nat.le_of_ble_eq_true rfl⟩)) (fun r hq => ?_)
        subst hq
        refine lv_iload_n hx hb d_D_addAnswers_31 rfl (lv_at hl 2 rfl) ?_
        refine lv_iload hx hb d_D_addAnswers_32 (lv_at hl 3 rfl) ?_
        refine lv_iushr (v := nI (ci_a ol (ci_t cc kd lf rg pt none (cc + gc)) oc / 2 ^ i)) hx hb d_D_addAnswers_34 (pk_ushrN (by omega) (nI i) i ((by decide +kernel : ∀ n, n < 32 → (((nI n).toUInt32 &&& Int32.toUInt32 31).toBitVec % 32).toNat = n) i (by omega))) ?_
        refine vp_callSl (va_Run.run (va_runSN (As := [.int (nI (ci_a ol (ci_t cc kd lf rg pt none (cc + gc)) oc / 2 ^ i))]) (rest := [.long (lN (v (ol i)))]) ⟨hx, hb, hml, hown, hts⟩ (c_C_spread l (ci_a ol (ci_t cc kd lf rg pt none (cc + gc)) oc / 2 ^ i) (Nat.lt_of_le_of_lt (Nat.div_le_self _ _) (by omega))) ⟨va_cnB 1 hts gi_C_spread rfl rfl rfl (hN _ kw_492) (hts _ kw_3) ⟨by decide, by decide, by decide⟩ ⟨Nat.le_of_ble_eq_true rfl, Nat.le_of_ble_eq_true rfl⟩, hts _ kw_438, trivial⟩ wq_preS0 rfl rfl hl.1 rfl (lv_room (Nat.le_of_ble_eq_true rfl)) d_D_addAnswers_35 ⟨Nat.le_of_ble_eq_true rfl, Nat.le_of_ble_eq_true rfl⟩)) (fun r hq2 => ?_)
        subst hq2
        refine lv_lxor hx hb d_D_addAnswers_38 ?_
        refine lv_topl (nm_r (show _ = lN wd from (lN_xor _ _).trans (congrArg lN hwe)) ?_)
        refine lv_lstore (lv' := [(5, .long (lN wd)), (0, .ref e0), (1, .ref h0), (3, .int (nI (ci_a ol (ci_t cc kd lf rg pt none (cc + gc)) oc))), (4, .int (nI i))]) hx hb d_D_addAnswers_39 hl (by decide) rfl (fun ls hl => ?_)
        refine lv_aload_n hx hb d_D_addAnswers_41 rfl (lv_at hl 1 rfl) ?_
        refine va_get (D := (dC, dI)) (ci := 3) (v := .ref e1) (C := R_D) (T := F_D) (N := 2) hx hb hts in_D hown hK hP 0 rfl rfl 0 (by decide) (hts _ kw_86) (fun _ h9 => h9) rfl d_D_addAnswers_42 ?_
        refine lv_iload hx hb d_D_addAnswers_45 (lv_at hl 4 rfl) ?_
        refine lv_dup2_11 hx hb d_D_addAnswers_47 rfl rfl ?_
        refine va_lald (D := (dC, dI)) hx hb hK hP 1 1 rfl rfl (vp_in_nI (by omega) (by decide)) d_D_addAnswers_48 ?_
        refine lv_topl (nm_r (show _ = lN (r2 i) from congrArg (fun c => lN (r2 c)) (nI_clamp (by omega))) ?_)
        refine lv_lload hx hb d_D_addAnswers_49 (lv_at hl 0 rfl) ?_
        refine lv_lxor hx hb d_D_addAnswers_51 ?_
        refine lv_topl (nm_r (show _ = lN (r2 i ^^^ wd) from lN_xor _ _) ?_)
        refine va_last (D := (dC, dI)) (i := (nI i)) (x := (lN (r2 i ^^^ wd))) hx hb hK hP hD hS 1 1 rfl rfl (vp_in_nI (by omega) (by decide)) d_D_addAnswers_52 (fun H locs hP hD hS => ?_)
        rw [nI_clamp (by omega), updL_lN] at hP hD
        have hP : va_P (dC, dI) classes [(e0, .inr (3, [.ref e1, .long (lN s2)])), (e1, .inl (cL, 33, .inr (.inl (fun c => lN ((va_up r2 i (r2 i ^^^ wd)) c))))), (h0, .inr (2, [.ref k1, .ref k2, .ref k3, .ref k4, .ref k5, .int (nI cc), .int (nI gc), .int (nI oc)])), (k1, .inl (cI, 24, .inl (fun c => nI (kd c)))), (k2, .inl (cI, 24, .inl (fun c => nI (lf c)))), (k3, .inl (cI, 24, .inl (fun c => nI (rg c)))), (k4, .inl (cI, 16, .inl (fun c => nI (ol c)))), (k5, .inl (cL, 32, .inr (.inl (fun c => lN (v c)))))] H := hP
        have hD : va_D A [(e0, .inr (3, [.ref e1, .long (lN s2)])), (e1, .inl (cL, 33, .inr (.inl (fun c => lN ((va_up r2 i (r2 i ^^^ wd)) c))))), (h0, .inr (2, [.ref k1, .ref k2, .ref k3, .ref k4, .ref k5, .int (nI cc), .int (nI gc), .int (nI oc)])), (k1, .inl (cI, 24, .inl (fun c => nI (kd c)))), (k2, .inl (cI, 24, .inl (fun c => nI (lf c)))), (k3, .inl (cI, 24, .inl (fun c => nI (rg c)))), (k4, .inl (cI, 16, .inl (fun c => nI (ol c)))), (k5, .inl (cL, 32, .inr (.inl (fun c => lN (v c)))))] := hD
        refine lv_aload_n hx hb d_D_addAnswers_53 rfl (lv_at hl 1 rfl) ?_
        refine lv_dup hx hb d_D_addAnswers_54 rfl ?_
        refine va_get (D := (dC, dI)) (ci := 3) (v := .long (lN s2)) (C := R_D) (T := F_D) (N := 2) hx hb hts in_D hown hK hP 0 rfl rfl 1 (by decide) (hts _ kw_87) (fun _ h9 => h9) rfl d_D_addAnswers_55 ?_
        refine lv_lload hx hb d_D_addAnswers_58 (lv_at hl 0 rfl) ?_
        refine lv_lor hx hb d_D_addAnswers_60 ?_
        refine lv_topl (nm_r (show _ = lN (s2 ||| wd) from wb_or hI.2.1 hwd) ?_)
        refine va_put (D := (dC, dI)) (ci := 3) (v := .long (lN (s2 ||| wd))) (ty := .long) (C := R_D) (T := F_D) (N := 2) hx hb hts in_D t_D t_D_ok n_D hown hK hP hD hS 0 rfl rfl 1 (by decide) (hts _ kw_87) (fun _ h9 => h9) rfl (by decide +kernel) rfl rfl (Nat.le_of_ble_eq_true rfl) d_D_addAnswers_61 (fun H locs hP hD hS => ?_)
        have hP : va_P (dC, dI) classes [(e0, .inr (3, [.ref e1, .long (lN (s2 ||| wd))])), (e1, .inl (cL, 33, .inr (.inl (fun c => lN ((va_up r2 i (r2 i ^^^ wd)) c))))), (h0, .inr (2, [.ref k1, .ref k2, .ref k3, .ref k4, .ref k5, .int (nI cc), .int (nI gc), .int (nI oc)])), (k1, .inl (cI, 24, .inl (fun c => nI (kd c)))), (k2, .inl (cI, 24, .inl (fun c => nI (lf c)))), (k3, .inl (cI, 24, .inl (fun c => nI (rg c)))), (k4, .inl (cI, 16, .inl (fun c => nI (ol c)))), (k5, .inl (cL, 32, .inr (.inl (fun c => lN (v c)))))] H := hP
        have hD : va_D A [(e0, .inr (3, [.ref e1, .long (lN (s2 ||| wd))])), (e1, .inl (cL, 33, .inr (.inl (fun c => lN ((va_up r2 i (r2 i ^^^ wd)) c))))), (h0, .inr (2, [.ref k1, .ref k2, .ref k3, .ref k4, .ref k5, .int (nI cc), .int (nI gc), .int (nI oc)])), (k1, .inl (cI, 24, .inl (fun c => nI (kd c)))), (k2, .inl (cI, 24, .inl (fun c => nI (lf c)))), (k3, .inl (cI, 24, .inl (fun c => nI (rg c)))), (k4, .inl (cI, 16, .inl (fun c => nI (ol c)))), (k5, .inl (cL, 32, .inr (.inl (fun c => lN (v c)))))] := hD
        refine lv_iinc (v := nI (i + 1)) (lv' := [(4, .int (nI (i + 1))), (5, .long (lN wd)), (0, .ref e0), (1, .ref h0), (3, .int (nI (ci_a ol (ci_t cc kd lf rg pt none (cc + gc)) oc)))]) hx hb d_D_addAnswers_64 hl (k := 4) rfl (nI_1 i) (by decide) rfl (fun ls hl => ?_)
        refine lv_goto (tgt := 16) hx hb d_D_addAnswers_67 (by decide) ?_
        have hl := lv_sub (l' := [(0, .ref e0), (1, .ref h0), (3, .int (nI (ci_a ol (ci_t cc kd lf rg pt none (cc + gc)) oc))), (4, .int (nI (i + 1)))]) hl [2, 3, 4, 0] rfl
        exact ih (i + 1) (va_up r2 i (r2 i ^^^ wd)) (s2 ||| wd) (by omega) (aa_turn hI (by omega) hwd hwb (va_up_self _ _ _) (fun k _ hk => va_up_ne _ _ hk)) H locs hP hD hS ls hl
  have hl := lv_sub (l' := [(0, .ref e0), (1, .ref h0), (3, .int (nI (ci_a ol (ci_t cc kd lf rg pt none (cc + gc)) oc))), (4, .int (nI 0))]) hl [2, 3, 1, 0] rfl
  exact loop oc 0 rr sn rfl (aa_0 hd hsn) _ _ hP hD hS ls hl
