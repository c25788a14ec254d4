/-! contracts of the model: patterns, sessions; laid by a program -/
theorem xb_turn (a b : Nat) : nI (a % 2) ^^^ nI (b % 2) = nI ((a + b % 2) % 2) := by
  rw [show (a + b % 2) % 2 = (a % 2 + b % 2) % 2 by omega]
  rcases Nat.mod_two_eq_zero_or_one a with e | e <;> rcases Nat.mod_two_eq_zero_or_one b with e2 | e2 <;> rw [e, e2] <;> decide
set_option maxHeartbeats 4000000 in
set_option maxRecDepth 100000 in
theorem c_O_patternOf (l : Launch) (dC : Nat → ClassId) (dI : Nat → Nat → Nat) (cI cL : ClassId) (o0 g1 g2 g3 g4 g5 g6 g7 g8 : Nat) (fl p n vr ir od cc gc oc : Nat) (mk : Nat → Nat) (hmk : ∀ c, c < cc → mk c < 2 ^ 32) (hcc : cc ≤ 8) (v : Nat) (hv0 : v < 2 ^ 64) : Met l y_O_patternOf w_O_patternOf ({ frames := 0, cells := 0, slots := 0, locals := 0 } : Room) (va_Pc [.ref o0, .long (lN v)] (wq_R (dC, dI) classes [(o0, .inr (4, [.int (nI fl), .long (lN p), .int (nI n), .long (lN vr), .int (nI ir), .long (lN od), .int (nI cc), .ref g1, .int (nI gc), .ref g2, .ref g3, .ref g4, .int (nI oc), .ref g5, .ref g6, .ref g7, .ref g8])), (g1, .inl (cL, 8, .inr (.inl (fun c => lN (mk c)))))] [(cI, .int), (cL, .long)])) (vp_Si (fun r => r = nI (pt_n mk v cc))) 0 0 (fun _ => False) := by
  refine Met.ofW (cc := b_O_patternOf) (maxL := 9) (ret := (Option.some Jvm.ClassFile.FieldType.int)) (by decide) rfl ?_
  intro pg en st mm ar bw me co s₁ B hml hv
  obtain ⟨rfl, hP, hK, hN⟩ := hv
  have hx := B.exec
  have hb := B.bytes
  have hr := B.returns
  have hlocks := B.notSynchronized
  have hts0 := atoms_spec (ws := w_O_patternOf) B.pre
  have hts : ∀ w ∈ gw, w.before _ st = true := fun w h => hts0 w (List.mem_cons_of_mem _ h)
  have hown : st.vm.findClass R_O = some mm.cls := findClass_of_methodNamed B.named
  have hl := lv_entry ([.ref o0, .long (lN v)]) (n := 9) (Nat.le_of_ble_eq_true rfl)
  rw [lg_entry_eq]
  generalize (lg_sl ([.ref o0, .long (lN v)]) ++ List.replicate (9 - (lg_sl ([.ref o0, .long (lN v)])).length) Slot.unset).toArray = ls at hl ⊢
  have hl : lv_has ls 9 [(0, .ref o0), (1, .long (lN v))] := hl
  have loop : ∀ (j i : Nat), j + i = cc → ∀ (ls : Array Slot), lv_has ls 9 [(0, .ref o0), (1, .long (lN v)), (3, .int (nI (pt_n mk v i))), (4, .int (nI i))] → W pg l en (headSpec w_O_patternOf ({ frames := 0, cells := 0, slots := 0, locals := 0 } : Room)).room st mm ([.ref o0, .long (lN v)] : List Value).toArray bw me co st.heap [] 0 0 (MQ bw (vp_Si (fun r => r = nI (pt_n mk v cc))) ([.ref o0, .long (lN v)] : List Value).toArray st 0 0 (fun _ => False)) (F0 mm 5 ls []) := by
    intro j
    induction j with
    | zero =>
      intro i hj ls hl
      refine lv_iload hx hb d_O_patternOf_5 (lv_at hl 3 rfl) ?_
      refine lv_aload_n hx hb d_O_patternOf_7 rfl (lv_at hl 0 rfl) ?_
      refine va_get (D := (dC, dI)) (ci := 4) (v := .int (nI cc)) (C := R_O) (T := F_O) (N := 17) hx hb hts in_O hown hK hP 0 rfl rfl 6 (by decide) (hts _ kw_534) (fun _ h9 => h9) rfl d_O_patternOf_8 ?_
      refine lv_icmp_ge (tgt := 73) hx hb d_O_patternOf_11 (by decide) (fun hc => ?_) (fun hc => ?_)
      · have hi : i = cc := by omega
        have e9 : (nI (pt_n mk v i)) = (nI (pt_n mk v cc)) := by rw [hi]
        have hl : lv_has ls 9 [(0, .ref o0), (1, .long (lN v)), (3, .int (nI (pt_n mk v cc))), (4, .int (nI i))] := by rw [← e9]; exact hl
        refine lv_iload_n hx hb d_O_patternOf_73 rfl (lv_at hl 2 rfl) ?_
        exact W.iret (v := nI (pt_n mk v cc)) hx hb hr (fun t9 ht hW => ⟨nI (pt_n mk v cc), rfl, rfl, ht⟩) (fun _ h => nomatch h) d_O_patternOf_74
      · exact absurd ((nI_leI (by omega) (by omega)).mpr (by omega)) hc
    | succ j ih =>
      intro i hj ls hl
      have hml2 := hmk i (by omega)
      have hwl : v &&& mk i < 2 ^ 32 := Nat.lt_of_le_of_lt Nat.and_le_right hml2
      have hpi := pt_lt mk v i
      have hp8 : 2 ^ i ≤ 2 ^ 8 := Nat.pow_le_pow_right (by decide) (by omega)
      have inner : ∀ (q b : Nat), q + b = 32 → ∀ (ls : Array Slot), lv_has ls 9 [(0, .ref o0), (1, .long (lN v)), (3, .int (nI (pt_n mk v i))), (4, .int (nI i)), (5, .long (lN (v &&& mk i))), (7, .int (nI (pc_n (v &&& mk i) b % 2))), (8, .int (nI b))] → W pg l en (headSpec w_O_patternOf ({ frames := 0, cells := 0, slots := 0, locals := 0 } : Room)).room st mm ([.ref o0, .long (lN v)] : List Value).toArray bw me co st.heap [] 0 0 (MQ bw (vp_Si (fun r => r = nI (pt_n mk v cc))) ([.ref o0, .long (lN v)] : List Value).toArray st 0 0 (fun _ => False)) (F0 mm 31 ls []) := by
        intro q
        induction q with
        | zero =>
          intro b hb9 ls hl
          refine lv_iload hx hb d_O_patternOf_31 (lv_at hl 6 rfl) ?_
          refine lv_bipush (v := nI 32) hx hb d_O_patternOf_33 (by decide) ?_
          refine lv_icmp_ge (tgt := 57) hx hb d_O_patternOf_35 (by decide) (fun hc => ?_) (fun hc => ?_)
          · have hi : b = 32 := by omega
            have e9 : (nI (pc_n (v &&& mk i) b % 2)) = (nI (pc_n (v &&& mk i) 64 % 2)) := by rw [hi, pc_small hwl 64 (by decide)]
            have hl : lv_has ls 9 [(0, .ref o0), (1, .long (lN v)), (3, .int (nI (pt_n mk v i))), (4, .int (nI i)), (5, .long (lN (v &&& mk i))), (7, .int (nI (pc_n (v &&& mk i) 64 % 2))), (8, .int (nI b))] := by rw [← e9]; exact hl
            refine lv_iload_n hx hb d_O_patternOf_57 rfl (lv_at hl 2 rfl) ?_
            refine lv_iload hx hb d_O_patternOf_58 (lv_at hl 5 rfl) ?_
            refine lv_iconst (v := nI 1) hx hb d_O_patternOf_60 (by decide) ?_
            refine lv_iload hx hb d_O_patternOf_61 (lv_at hl 3 rfl) ?_
            refine lv_ishl hx hb d_O_patternOf_63 ?_
            refine lv_topi (nm_r (show _ = nI (2 ^ i) from (pk_shlN (n := 1) (nI i &&& 31) i ((by decide +kernel : ∀ n, n < 32 → ((nI n &&& 31).toBitVec.smod 32).toNat = n) i (by omega)) (by omega)).trans (by rw [Nat.one_mul])) ?_)
            refine lv_imul hx hb d_O_patternOf_64 ?_
            refine lv_topi (nm_r (show _ = nI (pc_n (v &&& mk i) 64 % 2 * 2 ^ i) from pk_mul _ _) ?_)
            refine lv_iadd hx hb d_O_patternOf_65 ?_
            refine lv_topi (nm_r (show _ = nI (pt_n mk v (i + 1)) from nI_add _ _) ?_)
            refine lv_istore_n (lv' := [(3, .int (nI (pt_n mk v (i + 1)))), (0, .ref o0), (1, .long (lN v)), (4, .int (nI i)), (5, .long (lN (v &&& mk i))), (7, .int (nI (pc_n (v &&& mk i) 64 % 2))), (8, .int (nI b))]) hx hb d_O_patternOf_66 rfl hl (by decide) rfl (fun ls hl => ?_)
            refine lv_iinc (v := nI (i + 1)) (lv' := [(4, .int (nI (i + 1))), (3, .int (nI (pt_n mk v (i + 1)))), (0, .ref o0), (1, .long (lN v)), (5, .long (lN (v &&& mk i))), (7, .int (nI (pc_n (v &&& mk i) 64 % 2))), (8, .int (nI b))]) hx hb d_O_patternOf_67 hl (k := 3) rfl (nI_1 i) (by decide) rfl (fun ls hl => ?_)
            refine lv_goto (tgt := 5) hx hb d_O_patternOf_70 (by decide) ?_
            have hl := lv_sub (l' := [(0, .ref o0), (1, .long (lN v)), (3, .int (nI (pt_n mk v (i + 1)))), (4, .int (nI (i + 1)))]) hl [2, 3, 1, 0] rfl
            exact ih (i + 1) (by omega) ls hl
          · exact absurd ((nI_leI (by omega) (by omega)).mpr (by omega)) hc
        | succ q ih2 =>
          intro b hb9 ls hl
          refine lv_iload hx hb d_O_patternOf_31 (lv_at hl 6 rfl) ?_
          refine lv_bipush (v := nI 32) hx hb d_O_patternOf_33 (by decide) ?_
          refine lv_icmp_ge (tgt := 57) hx hb d_O_patternOf_35 (by decide) (fun hc => ?_) (fun hc => ?_)
          · exact absurd ((nI_leI (by omega) (by omega)).mp hc) (by omega)
          · refine lv_iload hx hb d_O_patternOf_38 (lv_at hl 5 rfl) ?_
            refine lv_lload hx hb d_O_patternOf_40 (lv_at hl 4 rfl) ?_
            refine lv_iload hx hb d_O_patternOf_42 (lv_at hl 6 rfl) ?_
            refine lv_lshr (v := lN (v &&& mk i) >>> ((nI b).toInt64 &&& 63)) hx hb d_O_patternOf_44 (rfl) ?_
            refine lv_lconst (v := lN 1) hx hb d_O_patternOf_45 (by decide) ?_
            refine lv_land hx hb d_O_patternOf_46 ?_
            refine lv_topl (nm_r (show _ = lN ((v &&& mk i) / 2 ^ b % 2) from sb1 (by omega) (by omega)) ?_)
            refine lv_l2i (v := nI ((v &&& mk i) / 2 ^ b % 2)) hx hb d_O_patternOf_47 (lN_i _) ?_
            refine lv_ixor hx hb d_O_patternOf_48 ?_
            refine lv_topi (nm_r (show _ = nI (pc_n (v &&& mk i) (b + 1) % 2) from xb_turn (pc_n (v &&& mk i) b) ((v &&& mk i) / 2 ^ b)) ?_)
            refine lv_istore (lv' := [(7, .int (nI (pc_n (v &&& mk i) (b + 1) % 2))), (0, .ref o0), (1, .long (lN v)), (3, .int (nI (pt_n mk v i))), (4, .int (nI i)), (5, .long (lN (v &&& mk i))), (8, .int (nI b))]) hx hb d_O_patternOf_49 hl (by decide) rfl (fun ls hl => ?_)
            refine lv_iinc (v := nI (b + 1)) (lv' := [(8, .int (nI (b + 1))), (7, .int (nI (pc_n (v &&& mk i) (b + 1) % 2))), (0, .ref o0), (1, .long (lN v)), (3, .int (nI (pt_n mk v i))), (4, .int (nI i)), (5, .long (lN (v &&& mk i)))]) hx hb d_O_patternOf_51 hl (k := 6) rfl (nI_1 b) (by decide) rfl (fun ls hl => ?_)
            refine lv_goto (tgt := 31) hx hb d_O_patternOf_54 (by decide) ?_
            have hl := lv_sub (l' := [(0, .ref o0), (1, .long (lN v)), (3, .int (nI (pt_n mk v i))), (4, .int (nI i)), (5, .long (lN (v &&& mk i))), (7, .int (nI (pc_n (v &&& mk i) (b + 1) % 2))), (8, .int (nI (b + 1)))]) hl [2, 3, 4, 5, 6, 1, 0] rfl
            exact ih2 (b + 1) (by omega) ls hl
      refine lv_iload hx hb d_O_patternOf_5 (lv_at hl 3 rfl) ?_
      refine lv_aload_n hx hb d_O_patternOf_7 rfl (lv_at hl 0 rfl) ?_
      refine va_get (D := (dC, dI)) (ci := 4) (v := .int (nI cc)) (C := R_O) (T := F_O) (N := 17) hx hb hts in_O hown hK hP 0 rfl rfl 6 (by decide) (hts _ kw_534) (fun _ h9 => h9) rfl d_O_patternOf_8 ?_
      refine lv_icmp_ge (tgt := 73) hx hb d_O_patternOf_11 (by decide) (fun hc => ?_) (fun hc => ?_)
      · exact absurd ((nI_leI (by omega) (by omega)).mp hc) (by omega)
      · refine lv_lload_n hx hb d_O_patternOf_14 rfl (lv_at hl 1 rfl) ?_
        refine lv_aload_n hx hb d_O_patternOf_15 rfl (lv_at hl 0 rfl) ?_
        refine va_get (D := (dC, dI)) (ci := 4) (v := .ref g1) (C := R_O) (T := F_O) (N := 17) hx hb hts in_O hown hK hP 0 rfl rfl 7 (by decide) (hts _ kw_535) (fun _ h9 => h9) rfl d_O_patternOf_16 ?_
        refine lv_iload hx hb d_O_patternOf_19 (lv_at hl 3 rfl) ?_
        refine va_lald (D := (dC, dI)) hx hb hK hP 1 1 rfl rfl (vp_in_nI (by omega) (by decide)) d_O_patternOf_21 ?_
        refine lv_topl (nm_r (show _ = lN (mk i) from congrArg (fun c => lN (mk c)) (nI_clamp (by omega))) ?_)
        refine lv_land hx hb d_O_patternOf_22 ?_
        refine lv_topl (nm_r (show _ = lN (v &&& mk i) from wb_and hv0 (by omega)) ?_)
        refine lv_lstore (lv' := [(5, .long (lN (v &&& mk i))), (0, .ref o0), (1, .long (lN v)), (3, .int (nI (pt_n mk v i))), (4, .int (nI i))]) hx hb d_O_patternOf_23 hl (by decide) rfl (fun ls hl => ?_)
        refine lv_iconst (v := nI 0) hx hb d_O_patternOf_25 (by decide) ?_
        refine lv_istore (lv' := [(7, .int (nI 0)), (5, .long (lN (v &&& mk i))), (0, .ref o0), (1, .long (lN v)), (3, .int (nI (pt_n mk v i))), (4, .int (nI i))]) hx hb d_O_patternOf_26 hl (by decide) rfl (fun ls hl => ?_)
        refine lv_iconst (v := nI 0) hx hb d_O_patternOf_28 (by decide) ?_
        refine lv_istore (lv' := [(8, .int (nI 0)), (7, .int (nI 0)), (5, .long (lN (v &&& mk i))), (0, .ref o0), (1, .long (lN v)), (3, .int (nI (pt_n mk v i))), (4, .int (nI i))]) hx hb d_O_patternOf_29 hl (by decide) rfl (fun ls hl => ?_)
        have hl := lv_sub (l' := [(0, .ref o0), (1, .long (lN v)), (3, .int (nI (pt_n mk v i))), (4, .int (nI i)), (5, .long (lN (v &&& mk i))), (7, .int (nI 0)), (8, .int (nI 0))]) hl [3, 4, 5, 6, 2, 1, 0] rfl
        exact inner 32 0 rfl ls hl
  refine lv_iconst (v := nI 0) hx hb d_O_patternOf_0 (by decide) ?_
  refine lv_istore_n (lv' := [(3, .int (nI 0)), (0, .ref o0), (1, .long (lN v))]) hx hb d_O_patternOf_1 rfl hl (by decide) rfl (fun ls hl => ?_)
  refine lv_iconst (v := nI 0) hx hb d_O_patternOf_2 (by decide) ?_
  refine lv_istore (lv' := [(4, .int (nI 0)), (3, .int (nI 0)), (0, .ref o0), (1, .long (lN v))]) hx hb d_O_patternOf_3 hl (by decide) rfl (fun ls hl => ?_)
  have hl := lv_sub (l' := [(0, .ref o0), (1, .long (lN v)), (3, .int (nI 0)), (4, .int (nI 0))]) hl [2, 3, 1, 0] rfl
  exact loop cc 0 rfl ls hl
set_option maxHeartbeats 4000000 in
set_option maxRecDepth 100000 in
theorem c_O_pattern (l : Launch) (dC : Nat → ClassId) (dI : Nat → Nat → Nat) (cI cL : ClassId) (sz : Nat) (o0 g1 g2 g3 g4 g5 g6 g7 g8 : Nat) (fl p n vr ir od cc gc oc : Nat) (mk : Nat → Nat) (hmk : ∀ c, c < cc → mk c < 2 ^ 32) (hcc : cc ≤ 8) (hv0 : vr < 2 ^ 64) : Met l y_O_pattern w_O_pattern ({ frames := 1, cells := 0, slots := 0, locals := 28 } : Room) (va_Pc [.ref o0] (wq_W (dC, dI) classes [(o0, .inr (4, [.int (nI fl), .long (lN p), .int (nI n), .long (lN vr), .int (nI ir), .long (lN od), .int (nI cc), .ref g1, .int (nI gc), .ref g2, .ref g3, .ref g4, .int (nI oc), .ref g5, .ref g6, .ref g7, .ref g8])), (g1, .inl (cL, 8, .inr (.inl (fun c => lN (mk c)))))] [(cI, .int), (cL, .long)] sz)) (va_Qi (fun (r : Int32) (u : Unit) => r = nI (pt_n mk vr cc)) (fun (u : Unit) t => wq_B (dC, dI) classes [(cI, .int), (cL, .long)] (va_A [(o0, .inr (4, [.int (nI fl), .long (lN p), .int (nI n), .long (lN vr), .int (nI ir), .long (lN od), .int (nI cc), .ref g1, .int (nI gc), .ref g2, .ref g3, .ref g4, .int (nI oc), .ref g5, .ref g6, .ref g7, .ref g8])), (g1, .inl (cL, 8, .inr (.inl (fun c => lN (mk c)))))] sz) [(o0, .inr (4, [.int (nI 0), .long (lN p), .int (nI n), .long (lN vr), .int (nI ir), .long (lN od), .int (nI cc), .ref g1, .int (nI gc), .ref g2, .ref g3, .ref g4, .int (nI oc), .ref g5, .ref g6, .ref g7, .ref g8])), (g1, .inl (cL, 8, .inr (.inl (fun c => lN (mk c)))))] t) (va_A [(o0, .inr (4, [.int (nI fl), .long (lN p), .int (nI n), .long (lN vr), .int (nI ir), .long (lN od), .int (nI cc), .ref g1, .int (nI gc), .ref g2, .ref g3, .ref g4, .int (nI oc), .ref g5, .ref g6, .ref g7, .ref g8])), (g1, .inl (cL, 8, .inr (.inl (fun c => lN (mk c)))))] sz)) 0 0 (va_A [(o0, .inr (4, [.int (nI fl), .long (lN p), .int (nI n), .long (lN vr), .int (nI ir), .long (lN od), .int (nI cc), .ref g1, .int (nI gc), .ref g2, .ref g3, .ref g4, .int (nI oc), .ref g5, .ref g6, .ref g7, .ref g8])), (g1, .inl (cL, 8, .inr (.inl (fun c => lN (mk c)))))] sz) := by
  refine Met.ofW (cc := b_O_pattern) (maxL := 1) (ret := (Option.some Jvm.ClassFile.FieldType.int)) (by decide) rfl ?_
  intro pg en st mm ar bw me co s₁ B hml hv
  obtain ⟨rfl, hsz, hP, hK, hD0, hN⟩ := hv
  have hx := B.exec
  have hb := B.bytes
  have hr := B.returns
  have hlocks := B.notSynchronized
  have hts0 := atoms_spec (ws := w_O_pattern) B.pre
  have hts : ∀ w ∈ gw, w.before _ st = true := fun w h => hts0 w (List.mem_cons_of_mem _ h)
  have hown : st.vm.findClass R_O = some mm.cls := findClass_of_methodNamed B.named
  subst hsz
  have hD := hD0.self (sz := st.heap.size)
  generalize hAe : va_A [(o0, .inr (4, [.int (nI fl), .long (lN p), .int (nI n), .long (lN vr), .int (nI ir), .long (lN od), .int (nI cc), .ref g1, .int (nI gc), .ref g2, .ref g3, .ref g4, .int (nI oc), .ref g5, .ref g6, .ref g7, .ref g8])), (g1, .inl (cL, 8, .inr (.inl (fun c => lN (mk c)))))] st.heap.size = A at hD ⊢
  have hA : ∀ q : Nat, st.heap.size ≤ q → A q := fun q h => by rw [← hAe]; exact Or.inr h
  have hS : va_S A st.heap st.heap [] := va_S.rf
  have hl := lv_entry ([.ref o0]) (n := 1) (Nat.le_of_ble_eq_true rfl)
  rw [lg_entry_eq]
  generalize (lg_sl ([.ref o0]) ++ List.replicate (1 - (lg_sl ([.ref o0])).length) Slot.unset).toArray = ls at hl ⊢
  have hl : lv_has ls 1 [(0, .ref o0)] := hl
  refine lv_aload_n hx hb d_O_pattern_0 rfl (lv_at hl 0 rfl) ?_
  refine lv_iconst (v := nI 0) hx hb d_O_pattern_1 (by decide) ?_
  refine va_put (D := (dC, dI)) (ci := 4) (v := .int (nI 0)) (ty := .int) (C := R_O) (T := F_O) (N := 17) hx hb hts in_O t_O t_O_ok n_O hown hK hP hD hS 0 rfl rfl 0 (by decide) (hts _ kw_528) (fun _ h9 => h9) rfl (by decide +kernel) rfl rfl (Nat.le_of_ble_eq_true rfl) d_O_pattern_2 (fun H locs hP hD hS => ?_)
  have hP : va_P (dC, dI) classes [(o0, .inr (4, [.int (nI 0), .long (lN p), .int (nI n), .long (lN vr), .int (nI ir), .long (lN od), .int (nI cc), .ref g1, .int (nI gc), .ref g2, .ref g3, .ref g4, .int (nI oc), .ref g5, .ref g6, .ref g7, .ref g8])), (g1, .inl (cL, 8, .inr (.inl (fun c => lN (mk c)))))] H := hP
  have hD : va_D A [(o0, .inr (4, [.int (nI 0), .long (lN p), .int (nI n), .long (lN vr), .int (nI ir), .long (lN od), .int (nI cc), .ref g1, .int (nI gc), .ref g2, .ref g3, .ref g4, .int (nI oc), .ref g5, .ref g6, .ref g7, .ref g8])), (g1, .inl (cL, 8, .inr (.inl (fun c => lN (mk c)))))] := hD
  refine lv_aload_n hx hb d_O_pattern_5 rfl (lv_at hl 0 rfl) ?_
  refine lv_aload_n hx hb d_O_pattern_6 rfl (lv_at hl 0 rfl) ?_
  refine va_get (D := (dC, dI)) (ci := 4) (v := .long (lN vr)) (C := R_O) (T := F_O) (N := 17) hx hb hts in_O hown hK hP 0 rfl rfl 3 (by decide) (hts _ kw_531) (fun _ h9 => h9) rfl d_O_pattern_7 ?_
  refine vp_callSi (va_Run.run (va_runV (As := [.long (lN vr)]) (rest := []) ⟨hx, hb, hml, hown, hts⟩ (c_O_patternOf l dC dI cI cL o0 g1 g2 g3 g4 g5 g6 g7 g8 0 p n vr ir od cc gc oc mk hmk hcc vr hv0) (cwV 1 hts (gi_V kw_665 kw_667 ks_O_patternOf kw_5 gi_O_patternOf) rfl rfl rfl ⟨rfl, by decide, by decide, by decide⟩ ⟨Nat.le_of_ble_eq_true rfl, Nat.le_of_ble_eq_true rfl⟩) (wq_preVR hP hK hN [0, 1] rfl (q0 := 0) (ci := 4) rfl rfl rfl) rfl rfl hl.1 rfl (lv_room (Nat.le_of_ble_eq_true rfl)) d_O_pattern_10 ⟨Nat.le_of_ble_eq_true rfl, Nat.le_of_ble_eq_true rfl⟩)) (fun r hq => ?_)
  subst hq
  have hP := hP.sub (ws' := [(o0, .inr (4, [.int (nI 0), .long (lN p), .int (nI n), .long (lN vr), .int (nI ir), .long (lN od), .int (nI cc), .ref g1, .int (nI gc), .ref g2, .ref g3, .ref g4, .int (nI oc), .ref g5, .ref g6, .ref g7, .ref g8])), (g1, .inl (cL, 8, .inr (.inl (fun c => lN (mk c)))))]) [0, 1] rfl
  have hD := hD.sub (ws' := [(o0, .inr (4, [.int (nI 0), .long (lN p), .int (nI n), .long (lN vr), .int (nI ir), .long (lN od), .int (nI cc), .ref g1, .int (nI gc), .ref g2, .ref g3, .ref g4, .int (nI oc), .ref g5, .ref g6, .ref g7, .ref g8])), (g1, .inl (cL, 8, .inr (.inl (fun c => lN (mk c)))))]) [0, 1] (by decide) rfl
  exact W.iret (v := nI (pt_n mk vr cc)) hx hb hr (fun t9 ht hW => ⟨⟨nI (pt_n mk vr cc), (), rfl, rfl, by rw [ht]; exact hP, va_K.moved hW.alike hK, hD⟩, hS.F ht⟩) hS.2.2 d_O_pattern_13
set_option maxHeartbeats 4000000 in
set_option maxRecDepth 100000 in
theorem c_O_answerN (l : Launch) (dC : Nat → ClassId) (dI : Nat → Nat → Nat) (cI cL : ClassId) (sz : Nat) (o0 g1 g2 g3 g4 g5 g6 g7 g8 : Nat) (fl p n vr ir od cc gc oc : Nat) (kd lf rg ol : Nat → Nat) (hk : ck cc gc oc kd lf rg ol) (ln : Nat → Nat) (pt : Nat) (hpt : pt < 2 ^ 32) : Met l y_O_answer w_O_answer ({ frames := 2, cells := 0, slots := 0, locals := 46 } : Room) (va_Pc [.ref o0, .int (nI pt), .int (-1)] (wq_W (dC, dI) classes [(o0, .inr (4, [.int (nI fl), .long (lN p), .int (nI n), .long (lN vr), .int (nI ir), .long (lN od), .int (nI cc), .ref g1, .int (nI gc), .ref g2, .ref g3, .ref g4, .int (nI oc), .ref g5, .ref g6, .ref g7, .ref g8])), (g2, .inl (cI, 24, .inl (fun c => nI (kd c)))), (g3, .inl (cI, 24, .inl (fun c => nI (lf c)))), (g4, .inl (cI, 24, .inl (fun c => nI (rg c)))), (g5, .inl (cI, 16, .inl (fun c => nI (ol c)))), (g6, .inl (cI, 32, .inl (fun c => nI (ln c))))] [(cI, .int), (cL, .long)] sz)) (va_Qi (fun (r : Int32) (u : Nat → Nat) => r = nI (ci_a ol (ci_t cc kd lf rg pt none (cc + gc)) oc)) (fun (u : Nat → Nat) t => wq_B (dC, dI) classes [(cI, .int), (cL, .long)] (va_A [(o0, .inr (4, [.int (nI fl), .long (lN p), .int (nI n), .long (lN vr), .int (nI ir), .long (lN od), .int (nI cc), .ref g1, .int (nI gc), .ref g2, .ref g3, .ref g4, .int (nI oc), .ref g5, .ref g6, .ref g7, .ref g8])), (g2, .inl (cI, 24, .inl (fun c => nI (kd c)))), (g3, .inl (cI, 24, .inl (fun c => nI (lf c)))), (g4, .inl (cI, 24, .inl (fun c => nI (rg c)))), (g5, .inl (cI, 16, .inl (fun c => nI (ol c)))), (g6, .inl (cI, 32, .inl (fun c => nI (ln c))))] sz) [(o0, .inr (4, [.int (nI 0), .long (lN p), .int (nI n), .long (lN vr), .int (nI ir), .long (lN od), .int (nI cc), .ref g1, .int (nI gc), .ref g2, .ref g3, .ref g4, .int (nI oc), .ref g5, .ref g6, .ref g7, .ref g8])), (g2, .inl (cI, 24, .inl (fun c => nI (kd c)))), (g3, .inl (cI, 24, .inl (fun c => nI (lf c)))), (g4, .inl (cI, 24, .inl (fun c => nI (rg c)))), (g5, .inl (cI, 16, .inl (fun c => nI (ol c)))), (g6, .inl (cI, 32, .inl (fun c => nI (u c))))] t) (va_A [(o0, .inr (4, [.int (nI fl), .long (lN p), .int (nI n), .long (lN vr), .int (nI ir), .long (lN od), .int (nI cc), .ref g1, .int (nI gc), .ref g2, .ref g3, .ref g4, .int (nI oc), .ref g5, .ref g6, .ref g7, .ref g8])), (g2, .inl (cI, 24, .inl (fun c => nI (kd c)))), (g3, .inl (cI, 24, .inl (fun c => nI (lf c)))), (g4, .inl (cI, 24, .inl (fun c => nI (rg c)))), (g5, .inl (cI, 16, .inl (fun c => nI (ol c)))), (g6, .inl (cI, 32, .inl (fun c => nI (ln c))))] sz)) 0 0 (va_A [(o0, .inr (4, [.int (nI fl), .long (lN p), .int (nI n), .long (lN vr), .int (nI ir), .long (lN od), .int (nI cc), .ref g1, .int (nI gc), .ref g2, .ref g3, .ref g4, .int (nI oc), .ref g5, .ref g6, .ref g7, .ref g8])), (g2, .inl (cI, 24, .inl (fun c => nI (kd c)))), (g3, .inl (cI, 24, .inl (fun c => nI (lf c)))), (g4, .inl (cI, 24, .inl (fun c => nI (rg c)))), (g5, .inl (cI, 16, .inl (fun c => nI (ol c)))), (g6, .inl (cI, 32, .inl (fun c => nI (ln c))))] sz) := by
  refine Met.ofW (cc := b_O_answer) (maxL := 3) (ret := (Option.some Jvm.ClassFile.FieldType.int)) (by decide) rfl ?_
  intro pg en st mm ar bw me co s₁ B hml hv
  obtain ⟨rfl, hsz, hP, hK, hD0, hN⟩ := hv
  have hx := B.exec
  have hb := B.bytes
  have hr := B.returns
  have hlocks := B.notSynchronized
  have hts0 := atoms_spec (ws := w_O_answer) B.pre
  have hts : ∀ w ∈ gw, w.before _ st = true := fun w h => hts0 w (List.mem_cons_of_mem _ h)
  have hown : st.vm.findClass R_O = some mm.cls := findClass_of_methodNamed B.named
  subst hsz
  have hD := hD0.self (sz := st.heap.size)
  generalize hAe : va_A [(o0, .inr (4, [.int (nI fl), .long (lN p), .int (nI n), .long (lN vr), .int (nI ir), .long (lN od), .int (nI cc), .ref g1, .int (nI gc), .ref g2, .ref g3, .ref g4, .int (nI oc), .ref g5, .ref g6, .ref g7, .ref g8])), (g2, .inl (cI, 24, .inl (fun c => nI (kd c)))), (g3, .inl (cI, 24, .inl (fun c => nI (lf c)))), (g4, .inl (cI, 24, .inl (fun c => nI (rg c)))), (g5, .inl (cI, 16, .inl (fun c => nI (ol c)))), (g6, .inl (cI, 32, .inl (fun c => nI (ln c))))] st.heap.size = A at hD ⊢
  have hA : ∀ q : Nat, st.heap.size ≤ q → A q := fun q h => by rw [← hAe]; exact Or.inr h
  have hS : va_S A st.heap st.heap [] := va_S.rf
  have hl := lv_entry ([.ref o0, .int (nI pt), .int (-1)]) (n := 3) (Nat.le_of_ble_eq_true rfl)
  rw [lg_entry_eq]
  generalize (lg_sl ([.ref o0, .int (nI pt), .int (-1)]) ++ List.replicate (3 - (lg_sl ([.ref o0, .int (nI pt), .int (-1)])).length) Slot.unset).toArray = ls at hl ⊢
  have hl : lv_has ls 3 [(0, .ref o0), (1, .int (nI pt)), (2, .int (-1))] := hl
  have h1 := hk.1
  have h2 := hk.2.1
  refine lv_aload_n hx hb d_O_answer_0 rfl (lv_at hl 0 rfl) ?_
  refine lv_iload_n hx hb d_O_answer_1 rfl (lv_at hl 2 rfl) ?_
  refine lv_iconst (v := (-1)) hx hb d_O_answer_2 (by decide) ?_
  refine lv_icmp_eq (tgt := 14) hx hb d_O_answer_3 (by decide) (fun _ => ?_) (fun hc => absurd hc (fun z => z rfl))
  refine lv_iconst (v := nI 0) hx hb d_O_answer_14 (by decide) ?_
  refine lv_goto (tgt := 19) hx hb d_O_answer_15 (by decide) ?_
  refine wq_i (wr := [(g2, .inl (cI, 24, .inl (fun c => nI (kd c)))), (g3, .inl (cI, 24, .inl (fun c => nI (lf c)))), (g4, .inl (cI, 24, .inl (fun c => nI (rg c)))), (g5, .inl (cI, 16, .inl (fun c => nI (ol c)))), (g6, .inl (cI, 32, .inl (fun c => nI (ln c))))]) (va_runV (As := [.int (nI 0)]) (rest := []) ⟨hx, hb, hml, hown, hts⟩ (c_O_refused0 l dC dI cI cL st.heap.size o0 g1 g2 g3 g4 g5 g6 g7 g8 fl p n vr ir od cc gc oc) (cwV 1 hts (gi_V kw_588 kw_590 ks_O_refused kw_5 gi_O_refused) rfl rfl rfl ⟨rfl, by decide, by decide, by decide⟩ ⟨Nat.le_of_ble_eq_true rfl, Nat.le_of_ble_eq_true rfl⟩) (wq_preVW hP hD hK hN [0] rfl rfl (q0 := 0) (ci := 4) rfl rfl rfl) rfl rfl hl.1 rfl (lv_room (Nat.le_of_ble_eq_true rfl)) d_O_answer_19 ⟨Nat.le_of_ble_eq_true rfl, Nat.le_of_ble_eq_true rfl⟩) hP hD hS hA [0] [1, 2, 3, 4, 5] rfl rfl rfl (by decide) (fun r3 u H locs hq3 hP hD hS hz => ?_)
  have hP : va_P (dC, dI) classes [(g2, .inl (cI, 24, .inl (fun c => nI (kd c)))), (g3, .inl (cI, 24, .inl (fun c => nI (lf c)))), (g4, .inl (cI, 24, .inl (fun c => nI (rg c)))), (g5, .inl (cI, 16, .inl (fun c => nI (ol c)))), (g6, .inl (cI, 32, .inl (fun c => nI (ln c)))), (o0, .inr (4, [.int (nI 0), .long (lN p), .int (nI n), .long (lN vr), .int (nI ir), .long (lN od), .int (nI cc), .ref g1, .int (nI gc), .ref g2, .ref g3, .ref g4, .int (nI oc), .ref g5, .ref g6, .ref g7, .ref g8]))] H := hP
  have hD : va_D A [(g2, .inl (cI, 24, .inl (fun c => nI (kd c)))), (g3, .inl (cI, 24, .inl (fun c => nI (lf c)))), (g4, .inl (cI, 24, .inl (fun c => nI (rg c)))), (g5, .inl (cI, 16, .inl (fun c => nI (ol c)))), (g6, .inl (cI, 32, .inl (fun c => nI (ln c)))), (o0, .inr (4, [.int (nI 0), .long (lN p), .int (nI n), .long (lN vr), .int (nI ir), .long (lN od), .int (nI cc), .ref g1, .int (nI gc), .ref g2, .ref g3, .ref g4, .int (nI oc), .ref g5, .ref g6, .ref g7, .ref g8]))] := hD
  subst hq3
  refine lv_if_eq (tgt := 29) hx hb d_O_answer_22 (by decide) (fun _ => ?_) (fun hc => absurd hc (fun z => z rfl))
  refine lv_aload_n hx hb d_O_answer_29 rfl (lv_at hl 0 rfl) ?_
  refine lv_iload_n hx hb d_O_answer_30 rfl (lv_at hl 1 rfl) ?_
  refine lv_iload_n hx hb d_O_answer_31 rfl (lv_at hl 2 rfl) ?_
  have hP := hP.sub (ws' := [(o0, .inr (4, [.int (nI 0), .long (lN p), .int (nI n), .long (lN vr), .int (nI ir), .long (lN od), .int (nI cc), .ref g1, .int (nI gc), .ref g2, .ref g3, .ref g4, .int (nI oc), .ref g5, .ref g6, .ref g7, .ref g8])), (g2, .inl (cI, 24, .inl (fun c => nI (kd c)))), (g3, .inl (cI, 24, .inl (fun c => nI (lf c)))), (g4, .inl (cI, 24, .inl (fun c => nI (rg c)))), (g5, .inl (cI, 16, .inl (fun c => nI (ol c)))), (g6, .inl (cI, 32, .inl (fun c => nI (ln c))))]) [5, 0, 1, 2, 3, 4] rfl
  have hD := hD.sub (ws' := [(o0, .inr (4, [.int (nI 0), .long (lN p), .int (nI n), .long (lN vr), .int (nI ir), .long (lN od), .int (nI cc), .ref g1, .int (nI gc), .ref g2, .ref g3, .ref g4, .int (nI oc), .ref g5, .ref g6, .ref g7, .ref g8])), (g2, .inl (cI, 24, .inl (fun c => nI (kd c)))), (g3, .inl (cI, 24, .inl (fun c => nI (lf c)))), (g4, .inl (cI, 24, .inl (fun c => nI (rg c)))), (g5, .inl (cI, 16, .inl (fun c => nI (ol c)))), (g6, .inl (cI, 32, .inl (fun c => nI (ln c))))]) [5, 0, 1, 2, 3, 4] (by decide) rfl
  refine wq_i (wr := []) (va_runV (As := [.int (nI pt), .int (-1)]) (rest := []) ⟨hx, hb, hml, hown, hts⟩ (c_O_answerToN l dC dI cI cL H.size o0 g1 g2 g3 g4 g5 g6 g7 g8 0 p n vr ir od cc gc oc kd lf rg ol hk ln pt hpt) (cwV 2 hts (gi_V kw_689 kw_691 ks_O_answerTo kw_5 gi_O_answerTo) rfl rfl rfl ⟨rfl, by decide, by decide, by decide⟩ ⟨Nat.le_of_ble_eq_true rfl, Nat.le_of_ble_eq_true rfl⟩) (wq_preVW hP hD hK hN [0, 1, 2, 3, 4, 5] rfl rfl (q0 := 0) (ci := 4) rfl rfl rfl) rfl rfl hl.1 rfl (lv_room (Nat.le_of_ble_eq_true rfl)) d_O_answer_32 ⟨Nat.le_of_ble_eq_true rfl, Nat.le_of_ble_eq_true rfl⟩) hP hD hS hA [0, 1, 2, 3, 4, 5] [] rfl rfl rfl (by decide) (fun r4 u H locs hq4 hP hD hS hz => ?_)
  have hP : va_P (dC, dI) classes [(o0, .inr (4, [.int (nI 0), .long (lN p), .int (nI n), .long (lN vr), .int (nI ir), .long (lN od), .int (nI cc), .ref g1, .int (nI gc), .ref g2, .ref g3, .ref g4, .int (nI oc), .ref g5, .ref g6, .ref g7, .ref g8])), (g2, .inl (cI, 24, .inl (fun c => nI (kd c)))), (g3, .inl (cI, 24, .inl (fun c => nI (lf c)))), (g4, .inl (cI, 24, .inl (fun c => nI (rg c)))), (g5, .inl (cI, 16, .inl (fun c => nI (ol c)))), (g6, .inl (cI, 32, .inl (fun c => nI (u c))))] H := hP
  have hD : va_D A [(o0, .inr (4, [.int (nI 0), .long (lN p), .int (nI n), .long (lN vr), .int (nI ir), .long (lN od), .int (nI cc), .ref g1, .int (nI gc), .ref g2, .ref g3, .ref g4, .int (nI oc), .ref g5, .ref g6, .ref g7, .ref g8])), (g2, .inl (cI, 24, .inl (fun c => nI (kd c)))), (g3, .inl (cI, 24, .inl (fun c => nI (lf c)))), (g4, .inl (cI, 24, .inl (fun c => nI (rg c)))), (g5, .inl (cI, 16, .inl (fun c => nI (ol c)))), (g6, .inl (cI, 32, .inl (fun c => nI (u c))))] := hD
  subst hq4
  have hP := hP.sub (ws' := [(o0, .inr (4, [.int (nI 0), .long (lN p), .int (nI n), .long (lN vr), .int (nI ir), .long (lN od), .int (nI cc), .ref g1, .int (nI gc), .ref g2, .ref g3, .ref g4, .int (nI oc), .ref g5, .ref g6, .ref g7, .ref g8])), (g2, .inl (cI, 24, .inl (fun c => nI (kd c)))), (g3, .inl (cI, 24, .inl (fun c => nI (lf c)))), (g4, .inl (cI, 24, .inl (fun c => nI (rg c)))), (g5, .inl (cI, 16, .inl (fun c => nI (ol c)))), (g6, .inl (cI, 32, .inl (fun c => nI (u c))))]) [0, 1, 2, 3, 4, 5] rfl
  have hD := hD.sub (ws' := [(o0, .inr (4, [.int (nI 0), .long (lN p), .int (nI n), .long (lN vr), .int (nI ir), .long (lN od), .int (nI cc), .ref g1, .int (nI gc), .ref g2, .ref g3, .ref g4, .int (nI oc), .ref g5, .ref g6, .ref g7, .ref g8])), (g2, .inl (cI, 24, .inl (fun c => nI (kd c)))), (g3, .inl (cI, 24, .inl (fun c => nI (lf c)))), (g4, .inl (cI, 24, .inl (fun c => nI (rg c)))), (g5, .inl (cI, 16, .inl (fun c => nI (ol c)))), (g6, .inl (cI, 32, .inl (fun c => nI (u c))))]) [0, 1, 2, 3, 4, 5] (by decide) rfl
  exact W.iret (v := nI (ci_a ol (ci_t cc kd lf rg pt none (cc + gc)) oc)) hx hb hr (fun t9 ht hW => ⟨⟨nI (ci_a ol (ci_t cc kd lf rg pt none (cc + gc)) oc), u, rfl, rfl, by rw [ht]; exact hP, va_K.moved hW.alike hK, hD⟩, hS.F ht⟩) hS.2.2 d_O_answer_35
set_option maxHeartbeats 4000000 in
set_option maxRecDepth 100000 in
theorem c_O_answerF (l : Launch) (dC : Nat → ClassId) (dI : Nat → Nat → Nat) (cI cL : ClassId) (sz : Nat) (o0 g1 g2 g3 g4 g5 g6 g7 g8 : Nat) (fl p n vr ir od cc gc oc : Nat) (kd lf rg ol : Nat → Nat) (hk : ck cc gc oc kd lf rg ol) (ln : Nat → Nat) (pt : Nat) (hpt : pt < 2 ^ 32) (ff : Nat) (hff : ff < 2 * (cc + gc)) : Met l y_O_answer w_O_answer ({ frames := 2, cells := 0, slots := 0, locals := 46 } : Room) (va_Pc [.ref o0, .int (nI pt), .int (nI ff)] (wq_W (dC, dI) classes [(o0, .inr (4, [.int (nI fl), .long (lN p), .int (nI n), .long (lN vr), .int (nI ir), .long (lN od), .int (nI cc), .ref g1, .int (nI gc), .ref g2, .ref g3, .ref g4, .int (nI oc), .ref g5, .ref g6, .ref g7, .ref g8])), (g2, .inl (cI, 24, .inl (fun c => nI (kd c)))), (g3, .inl (cI, 24, .inl (fun c => nI (lf c)))), (g4, .inl (cI, 24, .inl (fun c => nI (rg c)))), (g5, .inl (cI, 16, .inl (fun c => nI (ol c)))), (g6, .inl (cI, 32, .inl (fun c => nI (ln c))))] [(cI, .int), (cL, .long)] sz)) (va_Qi (fun (r : Int32) (u : Nat → Nat) => r = nI (ci_a ol (ci_t cc kd lf rg pt (some ff) (cc + gc)) oc)) (fun (u : Nat → Nat) t => wq_B (dC, dI) classes [(cI, .int), (cL, .long)] (va_A [(o0, .inr (4, [.int (nI fl), .long (lN p), .int (nI n), .long (lN vr), .int (nI ir), .long (lN od), .int (nI cc), .ref g1, .int (nI gc), .ref g2, .ref g3, .ref g4, .int (nI oc), .ref g5, .ref g6, .ref g7, .ref g8])), (g2, .inl (cI, 24, .inl (fun c => nI (kd c)))), (g3, .inl (cI, 24, .inl (fun c => nI (lf c)))), (g4, .inl (cI, 24, .inl (fun c => nI (rg c)))), (g5, .inl (cI, 16, .inl (fun c => nI (ol c)))), (g6, .inl (cI, 32, .inl (fun c => nI (ln c))))] sz) [(o0, .inr (4, [.int (nI 0), .long (lN p), .int (nI n), .long (lN vr), .int (nI ir), .long (lN od), .int (nI cc), .ref g1, .int (nI gc), .ref g2, .ref g3, .ref g4, .int (nI oc), .ref g5, .ref g6, .ref g7, .ref g8])), (g2, .inl (cI, 24, .inl (fun c => nI (kd c)))), (g3, .inl (cI, 24, .inl (fun c => nI (lf c)))), (g4, .inl (cI, 24, .inl (fun c => nI (rg c)))), (g5, .inl (cI, 16, .inl (fun c => nI (ol c)))), (g6, .inl (cI, 32, .inl (fun c => nI (u c))))] t) (va_A [(o0, .inr (4, [.int (nI fl), .long (lN p), .int (nI n), .long (lN vr), .int (nI ir), .long (lN od), .int (nI cc), .ref g1, .int (nI gc), .ref g2, .ref g3, .ref g4, .int (nI oc), .ref g5, .ref g6, .ref g7, .ref g8])), (g2, .inl (cI, 24, .inl (fun c => nI (kd c)))), (g3, .inl (cI, 24, .inl (fun c => nI (lf c)))), (g4, .inl (cI, 24, .inl (fun c => nI (rg c)))), (g5, .inl (cI, 16, .inl (fun c => nI (ol c)))), (g6, .inl (cI, 32, .inl (fun c => nI (ln c))))] sz)) 0 0 (va_A [(o0, .inr (4, [.int (nI fl), .long (lN p), .int (nI n), .long (lN vr), .int (nI ir), .long (lN od), .int (nI cc), .ref g1, .int (nI gc), .ref g2, .ref g3, .ref g4, .int (nI oc), .ref g5, .ref g6, .ref g7, .ref g8])), (g2, .inl (cI, 24, .inl (fun c => nI (kd c)))), (g3, .inl (cI, 24, .inl (fun c => nI (lf c)))), (g4, .inl (cI, 24, .inl (fun c => nI (rg c)))), (g5, .inl (cI, 16, .inl (fun c => nI (ol c)))), (g6, .inl (cI, 32, .inl (fun c => nI (ln c))))] sz) := by
  refine Met.ofW (cc := b_O_answer) (maxL := 3) (ret := (Option.some Jvm.ClassFile.FieldType.int)) (by decide) rfl ?_
  intro pg en st mm ar bw me co s₁ B hml hv
  obtain ⟨rfl, hsz, hP, hK, hD0, hN⟩ := hv
  have hx := B.exec
  have hb := B.bytes
  have hr := B.returns
  have hlocks := B.notSynchronized
  have hts0 := atoms_spec (ws := w_O_answer) B.pre
  have hts : ∀ w ∈ gw, w.before _ st = true := fun w h => hts0 w (List.mem_cons_of_mem _ h)
  have hown : st.vm.findClass R_O = some mm.cls := findClass_of_methodNamed B.named
  subst hsz
  have hD := hD0.self (sz := st.heap.size)
  generalize hAe : va_A [(o0, .inr (4, [.int (nI fl), .long (lN p), .int (nI n), .long (lN vr), .int (nI ir), .long (lN od), .int (nI cc), .ref g1, .int (nI gc), .ref g2, .ref g3, .ref g4, .int (nI oc), .ref g5, .ref g6, .ref g7, .ref g8])), (g2, .inl (cI, 24, .inl (fun c => nI (kd c)))), (g3, .inl (cI, 24, .inl (fun c => nI (lf c)))), (g4, .inl (cI, 24, .inl (fun c => nI (rg c)))), (g5, .inl (cI, 16, .inl (fun c => nI (ol c)))), (g6, .inl (cI, 32, .inl (fun c => nI (ln c))))] st.heap.size = A at hD ⊢
  have hA : ∀ q : Nat, st.heap.size ≤ q → A q := fun q h => by rw [← hAe]; exact Or.inr h
  have hS : va_S A st.heap st.heap [] := va_S.rf
  have hl := lv_entry ([.ref o0, .int (nI pt), .int (nI ff)]) (n := 3) (Nat.le_of_ble_eq_true rfl)
  rw [lg_entry_eq]
  generalize (lg_sl ([.ref o0, .int (nI pt), .int (nI ff)]) ++ List.replicate (3 - (lg_sl ([.ref o0, .int (nI pt), .int (nI ff)])).length) Slot.unset).toArray = ls at hl ⊢
  have hl : lv_has ls 3 [(0, .ref o0), (1, .int (nI pt)), (2, .int (nI ff))] := hl
  have h1 := hk.1
  have h2 := hk.2.1
  refine lv_aload_n hx hb d_O_answer_0 rfl (lv_at hl 0 rfl) ?_
  refine lv_iload_n hx hb d_O_answer_1 rfl (lv_at hl 2 rfl) ?_
  refine lv_iconst (v := (-1)) hx hb d_O_answer_2 (by decide) ?_
  refine lv_icmp_eq (tgt := 14) hx hb d_O_answer_3 (by decide) (fun hc => absurd hc (nI_m1 (by omega))) (fun _ => ?_)
  refine lv_aload_n hx hb d_O_answer_6 rfl (lv_at hl 0 rfl) ?_
  refine lv_iload_n hx hb d_O_answer_7 rfl (lv_at hl 2 rfl) ?_
  refine vp_callSi (va_Run.run (va_runV (As := [.int (nI ff)]) (rest := [.ref o0]) ⟨hx, hb, hml, hown, hts⟩ (c_O_isFault l dC dI cI cL o0 g1 g2 g3 g4 g5 g6 g7 g8 fl p n vr ir od cc gc oc (nI ff)) (cwV 1 hts (gi_V kw_685 kw_687 ks_O_isFault kw_5 gi_O_isFault) rfl rfl rfl ⟨rfl, by decide, by decide, by decide⟩ ⟨Nat.le_of_ble_eq_true rfl, Nat.le_of_ble_eq_true rfl⟩) (wq_preVR hP hK hN [0] rfl (q0 := 0) (ci := 4) rfl rfl rfl) rfl rfl hl.1 rfl (lv_room (Nat.le_of_ble_eq_true rfl)) d_O_answer_8 ⟨Nat.le_of_ble_eq_true rfl, Nat.le_of_ble_eq_true rfl⟩)) (fun r hq => ?_)
  have hq : r = 1 := by
    rcases hq with ⟨e9, -⟩ | ⟨-, e9⟩
    · exact e9
    · exact absurd e9 (in_ok hff (by omega))
  subst hq
  refine lv_if_eq (tgt := 18) hx hb d_O_answer_11 (by decide) (fun hc => absurd hc (show ¬ (1 : Int32) = 0 from by decide)) (fun _ => ?_)
  refine lv_iconst (v := nI 0) hx hb d_O_answer_14 (by decide) ?_
  refine lv_goto (tgt := 19) hx hb d_O_answer_15 (by decide) ?_
  refine wq_i (wr := [(g2, .inl (cI, 24, .inl (fun c => nI (kd c)))), (g3, .inl (cI, 24, .inl (fun c => nI (lf c)))), (g4, .inl (cI, 24, .inl (fun c => nI (rg c)))), (g5, .inl (cI, 16, .inl (fun c => nI (ol c)))), (g6, .inl (cI, 32, .inl (fun c => nI (ln c))))]) (va_runV (As := [.int (nI 0)]) (rest := []) ⟨hx, hb, hml, hown, hts⟩ (c_O_refused0 l dC dI cI cL st.heap.size o0 g1 g2 g3 g4 g5 g6 g7 g8 fl p n vr ir od cc gc oc) (cwV 1 hts (gi_V kw_588 kw_590 ks_O_refused kw_5 gi_O_refused) rfl rfl rfl ⟨rfl, by decide, by decide, by decide⟩ ⟨Nat.le_of_ble_eq_true rfl, Nat.le_of_ble_eq_true rfl⟩) (wq_preVW hP hD hK hN [0] rfl rfl (q0 := 0) (ci := 4) rfl rfl rfl) rfl rfl hl.1 rfl (lv_room (Nat.le_of_ble_eq_true rfl)) d_O_answer_19 ⟨Nat.le_of_ble_eq_true rfl, Nat.le_of_ble_eq_true rfl⟩) hP hD hS hA [0] [1, 2, 3, 4, 5] rfl rfl rfl (by decide) (fun r3 u H locs hq3 hP hD hS hz => ?_)
  have hP : va_P (dC, dI) classes [(g2, .inl (cI, 24, .inl (fun c => nI (kd c)))), (g3, .inl (cI, 24, .inl (fun c => nI (lf c)))), (g4, .inl (cI, 24, .inl (fun c => nI (rg c)))), (g5, .inl (cI, 16, .inl (fun c => nI (ol c)))), (g6, .inl (cI, 32, .inl (fun c => nI (ln c)))), (o0, .inr (4, [.int (nI 0), .long (lN p), .int (nI n), .long (lN vr), .int (nI ir), .long (lN od), .int (nI cc), .ref g1, .int (nI gc), .ref g2, .ref g3, .ref g4, .int (nI oc), .ref g5, .ref g6, .ref g7, .ref g8]))] H := hP
  have hD : va_D A [(g2, .inl (cI, 24, .inl (fun c => nI (kd c)))), (g3, .inl (cI, 24, .inl (fun c => nI (lf c)))), (g4, .inl (cI, 24, .inl (fun c => nI (rg c)))), (g5, .inl (cI, 16, .inl (fun c => nI (ol c)))), (g6, .inl (cI, 32, .inl (fun c => nI (ln c)))), (o0, .inr (4, [.int (nI 0), .long (lN p), .int (nI n), .long (lN vr), .int (nI ir), .long (lN od), .int (nI cc), .ref g1, .int (nI gc), .ref g2, .ref g3, .ref g4, .int (nI oc), .ref g5, .ref g6, .ref g7, .ref g8]))] := hD
  subst hq3
  refine lv_if_eq (tgt := 29) hx hb d_O_answer_22 (by decide) (fun _ => ?_) (fun hc => absurd hc (fun z => z rfl))
  refine lv_aload_n hx hb d_O_answer_29 rfl (lv_at hl 0 rfl) ?_
  refine lv_iload_n hx hb d_O_answer_30 rfl (lv_at hl 1 rfl) ?_
  refine lv_iload_n hx hb d_O_answer_31 rfl (lv_at hl 2 rfl) ?_
  have hP := hP.sub (ws' := [(o0, .inr (4, [.int (nI 0), .long (lN p), .int (nI n), .long (lN vr), .int (nI ir), .long (lN od), .int (nI cc), .ref g1, .int (nI gc), .ref g2, .ref g3, .ref g4, .int (nI oc), .ref g5, .ref g6, .ref g7, .ref g8])), (g2, .inl (cI, 24, .inl (fun c => nI (kd c)))), (g3, .inl (cI, 24, .inl (fun c => nI (lf c)))), (g4, .inl (cI, 24, .inl (fun c => nI (rg c)))), (g5, .inl (cI, 16, .inl (fun c => nI (ol c)))), (g6, .inl (cI, 32, .inl (fun c => nI (ln c))))]) [5, 0, 1, 2, 3, 4] rfl
  have hD := hD.sub (ws' := [(o0, .inr (4, [.int (nI 0), .long (lN p), .int (nI n), .long (lN vr), .int (nI ir), .long (lN od), .int (nI cc), .ref g1, .int (nI gc), .ref g2, .ref g3, .ref g4, .int (nI oc), .ref g5, .ref g6, .ref g7, .ref g8])), (g2, .inl (cI, 24, .inl (fun c => nI (kd c)))), (g3, .inl (cI, 24, .inl (fun c => nI (lf c)))), (g4, .inl (cI, 24, .inl (fun c => nI (rg c)))), (g5, .inl (cI, 16, .inl (fun c => nI (ol c)))), (g6, .inl (cI, 32, .inl (fun c => nI (ln c))))]) [5, 0, 1, 2, 3, 4] (by decide) rfl
  refine wq_i (wr := []) (va_runV (As := [.int (nI pt), .int (nI ff)]) (rest := []) ⟨hx, hb, hml, hown, hts⟩ (c_O_answerToF l dC dI cI cL H.size o0 g1 g2 g3 g4 g5 g6 g7 g8 0 p n vr ir od cc gc oc kd lf rg ol hk ln pt hpt ff (by omega)) (cwV 2 hts (gi_V kw_689 kw_691 ks_O_answerTo kw_5 gi_O_answerTo) rfl rfl rfl ⟨rfl, by decide, by decide, by decide⟩ ⟨Nat.le_of_ble_eq_true rfl, Nat.le_of_ble_eq_true rfl⟩) (wq_preVW hP hD hK hN [0, 1, 2, 3, 4, 5] rfl rfl (q0 := 0) (ci := 4) rfl rfl rfl) rfl rfl hl.1 rfl (lv_room (Nat.le_of_ble_eq_true rfl)) d_O_answer_32 ⟨Nat.le_of_ble_eq_true rfl, Nat.le_of_ble_eq_true rfl⟩) hP hD hS hA [0, 1, 2, 3, 4, 5] [] rfl rfl rfl (by decide) (fun r4 u H locs hq4 hP hD hS hz => ?_)
  have hP : va_P (dC, dI) classes [(o0, .inr (4, [.int (nI 0), .long (lN p), .int (nI n), .long (lN vr), .int (nI ir), .long (lN od), .int (nI cc), .ref g1, .int (nI gc), .ref g2, .ref g3, .ref g4, .int (nI oc), .ref g5, .ref g6, .ref g7, .ref g8])), (g2, .inl (cI, 24, .inl (fun c => nI (kd c)))), (g3, .inl (cI, 24, .inl (fun c => nI (lf c)))), (g4, .inl (cI, 24, .inl (fun c => nI (rg c)))), (g5, .inl (cI, 16, .inl (fun c => nI (ol c)))), (g6, .inl (cI, 32, .inl (fun c => nI (u c))))] H := hP
  have hD : va_D A [(o0, .inr (4, [.int (nI 0), .long (lN p), .int (nI n), .long (lN vr), .int (nI ir), .long (lN od), .int (nI cc), .ref g1, .int (nI gc), .ref g2, .ref g3, .ref g4, .int (nI oc), .ref g5, .ref g6, .ref g7, .ref g8])), (g2, .inl (cI, 24, .inl (fun c => nI (kd c)))), (g3, .inl (cI, 24, .inl (fun c => nI (lf c)))), (g4, .inl (cI, 24, .inl (fun c => nI (rg c)))), (g5, .inl (cI, 16, .inl (fun c => nI (ol c)))), (g6, .inl (cI, 32, .inl (fun c => nI (u c))))] := hD
  subst hq4
  have hP := hP.sub (ws' := [(o0, .inr (4, [.int (nI 0), .long (lN p), .int (nI n), .long (lN vr), .int (nI ir), .long (lN od), .int (nI cc), .ref g1, .int (nI gc), .ref g2, .ref g3, .ref g4, .int (nI oc), .ref g5, .ref g6, .ref g7, .ref g8])), (g2, .inl (cI, 24, .inl (fun c => nI (kd c)))), (g3, .inl (cI, 24, .inl (fun c => nI (lf c)))), (g4, .inl (cI, 24, .inl (fun c => nI (rg c)))), (g5, .inl (cI, 16, .inl (fun c => nI (ol c)))), (g6, .inl (cI, 32, .inl (fun c => nI (u c))))]) [0, 1, 2, 3, 4, 5] rfl
  have hD := hD.sub (ws' := [(o0, .inr (4, [.int (nI 0), .long (lN p), .int (nI n), .long (lN vr), .int (nI ir), .long (lN od), .int (nI cc), .ref g1, .int (nI gc), .ref g2, .ref g3, .ref g4, .int (nI oc), .ref g5, .ref g6, .ref g7, .ref g8])), (g2, .inl (cI, 24, .inl (fun c => nI (kd c)))), (g3, .inl (cI, 24, .inl (fun c => nI (lf c)))), (g4, .inl (cI, 24, .inl (fun c => nI (rg c)))), (g5, .inl (cI, 16, .inl (fun c => nI (ol c)))), (g6, .inl (cI, 32, .inl (fun c => nI (u c))))]) [0, 1, 2, 3, 4, 5] (by decide) rfl
  exact W.iret (v := nI (ci_a ol (ci_t cc kd lf rg pt (some ff) (cc + gc)) oc)) hx hb hr (fun t9 ht hW => ⟨⟨nI (ci_a ol (ci_t cc kd lf rg pt (some ff) (cc + gc)) oc), u, rfl, rfl, by rw [ht]; exact hP, va_K.moved hW.alike hK, hD⟩, hS.F ht⟩) hS.2.2 d_O_answer_35
set_option maxHeartbeats 4000000 in
set_option maxRecDepth 100000 in
theorem c_O_answerX (l : Launch) (dC : Nat → ClassId) (dI : Nat → Nat → Nat) (cI cL : ClassId) (sz : Nat) (o0 g1 g2 g3 g4 g5 g6 g7 g8 : Nat) (fl p n vr ir od cc gc oc : Nat) (y1 y : Int32) (hy : (y < 0 ∨ ¬ y < nI (2 * (cc + gc)))) (hm1 : y ≠ -1) : Met l y_O_answer w_O_answer ({ frames := 1, cells := 0, slots := 0, locals := 21 } : Room) (va_Pc [.ref o0, .int y1, .int y] (wq_W (dC, dI) classes [(o0, .inr (4, [.int (nI fl), .long (lN p), .int (nI n), .long (lN vr), .int (nI ir), .long (lN od), .int (nI cc), .ref g1, .int (nI gc), .ref g2, .ref g3, .ref g4, .int (nI oc), .ref g5, .ref g6, .ref g7, .ref g8]))] [(cI, .int), (cL, .long)] sz)) (va_Qi (fun (r : Int32) (u : Unit) => r = nI 0) (fun (u : Unit) t => wq_B (dC, dI) classes [(cI, .int), (cL, .long)] (va_A [(o0, .inr (4, [.int (nI fl), .long (lN p), .int (nI n), .long (lN vr), .int (nI ir), .long (lN od), .int (nI cc), .ref g1, .int (nI gc), .ref g2, .ref g3, .ref g4, .int (nI oc), .ref g5, .ref g6, .ref g7, .ref g8]))] sz) [(o0, .inr (4, [.int (nI 1), .long (lN p), .int (nI n), .long (lN vr), .int (nI ir), .long (lN od), .int (nI cc), .ref g1, .int (nI gc), .ref g2, .ref g3, .ref g4, .int (nI oc), .ref g5, .ref g6, .ref g7, .ref g8]))] t) (va_A [(o0, .inr (4, [.int (nI fl), .long (lN p), .int (nI n), .long (lN vr), .int (nI ir), .long (lN od), .int (nI cc), .ref g1, .int (nI gc), .ref g2, .ref g3, .ref g4, .int (nI oc), .ref g5, .ref g6, .ref g7, .ref g8]))] sz)) 0 0 (va_A [(o0, .inr (4, [.int (nI fl), .long (lN p), .int (nI n), .long (lN vr), .int (nI ir), .long (lN od), .int (nI cc), .ref g1, .int (nI gc), .ref g2, .ref g3, .ref g4, .int (nI oc), .ref g5, .ref g6, .ref g7, .ref g8]))] sz) := by
  refine Met.ofW (cc := b_O_answer) (maxL := 3) (ret := (Option.some Jvm.ClassFile.FieldType.int)) (by decide) rfl ?_
  intro pg en st mm ar bw me co s₁ B hml hv
  obtain ⟨rfl, hsz, hP, hK, hD0, hN⟩ := hv
  have hx := B.exec
  have hb := B.bytes
  have hr := B.returns
  have hlocks := B.notSynchronized
  have hts0 := atoms_spec (ws := w_O_answer) B.pre
  have hts : ∀ w ∈ gw, w.before _ st = true := fun w h => hts0 w (List.mem_cons_of_mem _ h)
  have hown : st.vm.findClass R_O = some mm.cls := findClass_of_methodNamed B.named
  subst hsz
  have hD := hD0.self (sz := st.heap.size)
  generalize hAe : va_A [(o0, .inr (4, [.int (nI fl), .long (lN p), .int (nI n), .long (lN vr), .int (nI ir), .long (lN od), .int (nI cc), .ref g1, .int (nI gc), .ref g2, .ref g3, .ref g4, .int (nI oc), .ref g5, .ref g6, .ref g7, .ref g8]))] st.heap.size = A at hD ⊢
  have hA : ∀ q : Nat, st.heap.size ≤ q → A q := fun q h => by rw [← hAe]; exact Or.inr h
  have hS : va_S A st.heap st.heap [] := va_S.rf
  have hl := lv_entry ([.ref o0, .int y1, .int y]) (n := 3) (Nat.le_of_ble_eq_true rfl)
  rw [lg_entry_eq]
  generalize (lg_sl ([.ref o0, .int y1, .int y]) ++ List.replicate (3 - (lg_sl ([.ref o0, .int y1, .int y])).length) Slot.unset).toArray = ls at hl ⊢
  have hl : lv_has ls 3 [(0, .ref o0), (1, .int y1), (2, .int y)] := hl
  refine lv_aload_n hx hb d_O_answer_0 rfl (lv_at hl 0 rfl) ?_
  refine lv_iload_n hx hb d_O_answer_1 rfl (lv_at hl 2 rfl) ?_
  refine lv_iconst (v := (-1)) hx hb d_O_answer_2 (by decide) ?_
  refine lv_icmp_eq (tgt := 14) hx hb d_O_answer_3 (by decide) (fun hc => absurd hc (hm1)) (fun _ => ?_)
  refine lv_aload_n hx hb d_O_answer_6 rfl (lv_at hl 0 rfl) ?_
  refine lv_iload_n hx hb d_O_answer_7 rfl (lv_at hl 2 rfl) ?_
  refine vp_callSi (va_Run.run (va_runV (As := [.int y]) (rest := [.ref o0]) ⟨hx, hb, hml, hown, hts⟩ (c_O_isFault l dC dI cI cL o0 g1 g2 g3 g4 g5 g6 g7 g8 fl p n vr ir od cc gc oc y) (cwV 1 hts (gi_V kw_685 kw_687 ks_O_isFault kw_5 gi_O_isFault) rfl rfl rfl ⟨rfl, by decide, by decide, by decide⟩ ⟨Nat.le_of_ble_eq_true rfl, Nat.le_of_ble_eq_true rfl⟩) (wq_preVR hP hK hN [0] rfl (q0 := 0) (ci := 4) rfl rfl rfl) rfl rfl hl.1 rfl (lv_room (Nat.le_of_ble_eq_true rfl)) d_O_answer_8 ⟨Nat.le_of_ble_eq_true rfl, Nat.le_of_ble_eq_true rfl⟩)) (fun r hq => ?_)
  have hq : r = 0 := by
    rcases hq with ⟨-, e9⟩ | ⟨e9, -⟩
    · exact absurd hy e9
    · exact e9
  subst hq
  refine lv_if_eq (tgt := 18) hx hb d_O_answer_11 (by decide) (fun _ => ?_) (fun hc => absurd hc (fun z => z rfl))
  refine lv_iconst (v := nI 1) hx hb d_O_answer_18 (by decide) ?_
  refine wq_i (wr := []) (va_runV (As := [.int (nI 1)]) (rest := []) ⟨hx, hb, hml, hown, hts⟩ (c_O_refusedK l dC dI cI cL st.heap.size o0 g1 g2 g3 g4 g5 g6 g7 g8 fl p n vr ir od cc gc oc 1 (by decide) (by decide)) (cwV 1 hts (gi_V kw_588 kw_590 ks_O_refused kw_5 gi_O_refused) rfl rfl rfl ⟨rfl, by decide, by decide, by decide⟩ ⟨Nat.le_of_ble_eq_true rfl, Nat.le_of_ble_eq_true rfl⟩) (wq_preVW hP hD hK hN [0] rfl rfl (q0 := 0) (ci := 4) rfl rfl rfl) rfl rfl hl.1 rfl (lv_room (Nat.le_of_ble_eq_true rfl)) d_O_answer_19 ⟨Nat.le_of_ble_eq_true rfl, Nat.le_of_ble_eq_true rfl⟩) hP hD hS hA [0] [] rfl rfl rfl (by decide) (fun r u H locs hq hP hD hS hz => ?_)
  have hP : va_P (dC, dI) classes [(o0, .inr (4, [.int (nI 1), .long (lN p), .int (nI n), .long (lN vr), .int (nI ir), .long (lN od), .int (nI cc), .ref g1, .int (nI gc), .ref g2, .ref g3, .ref g4, .int (nI oc), .ref g5, .ref g6, .ref g7, .ref g8]))] H := hP
  have hD : va_D A [(o0, .inr (4, [.int (nI 1), .long (lN p), .int (nI n), .long (lN vr), .int (nI ir), .long (lN od), .int (nI cc), .ref g1, .int (nI gc), .ref g2, .ref g3, .ref g4, .int (nI oc), .ref g5, .ref g6, .ref g7, .ref g8]))] := hD
  subst hq
  refine lv_if_eq (tgt := 29) hx hb d_O_answer_22 (by decide) (fun hc => absurd hc (show ¬ (1 : Int32) = 0 from by decide)) (fun _ => ?_)
  refine lv_iconst (v := nI 0) hx hb d_O_answer_25 (by decide) ?_
  refine lv_goto (tgt := 35) hx hb d_O_answer_26 (by decide) ?_
  have hP := hP.sub (ws' := [(o0, .inr (4, [.int (nI 1), .long (lN p), .int (nI n), .long (lN vr), .int (nI ir), .long (lN od), .int (nI cc), .ref g1, .int (nI gc), .ref g2, .ref g3, .ref g4, .int (nI oc), .ref g5, .ref g6, .ref g7, .ref g8]))]) [0] rfl
  have hD := hD.sub (ws' := [(o0, .inr (4, [.int (nI 1), .long (lN p), .int (nI n), .long (lN vr), .int (nI ir), .long (lN od), .int (nI cc), .ref g1, .int (nI gc), .ref g2, .ref g3, .ref g4, .int (nI oc), .ref g5, .ref g6, .ref g7, .ref g8]))]) [0] (by decide) rfl
  exact W.iret (v := nI 0) hx hb hr (fun t9 ht hW => ⟨⟨nI 0, (), rfl, rfl, by rw [ht]; exact hP, va_K.moved hW.alike hK, hD⟩, hS.F ht⟩) hS.2.2 d_O_answer_35
set_option maxHeartbeats 4000000 in
set_option maxRecDepth 100000 in
theorem c_O_prepare (l : Launch) (dC : Nat → ClassId) (dI : Nat → Nat → Nat) (cI cL : ClassId) (sz : Nat) (o0 g1 g2 g3 g4 g5 g6 g7 g8 : Nat) (fl p n vr ir od cc gc oc : Nat) (hm : md p n) (kd lf rg ol : Nat → Nat) (hk : ck cc gc oc kd lf rg ol) (mk : Nat → Nat) (hmk : ∀ c, c < cc → mk c < 2 ^ 32) (hvr : vr < 2 ^ n) (ln pa an : Nat → Nat) (m : Nat) (hmm : m ≤ 256) : Met l y_O_prepare w_O_prepare ({ frames := 2, cells := 0, slots := 0, locals := 46 } : Room) (va_Pc [.ref o0, .int (nI m)] (wq_W (dC, dI) classes [(o0, .inr (4, [.int (nI fl), .long (lN p), .int (nI n), .long (lN vr), .int (nI ir), .long (lN od), .int (nI cc), .ref g1, .int (nI gc), .ref g2, .ref g3, .ref g4, .int (nI oc), .ref g5, .ref g6, .ref g7, .ref g8])), (g1, .inl (cL, 8, .inr (.inl (fun c => lN (mk c))))), (g2, .inl (cI, 24, .inl (fun c => nI (kd c)))), (g3, .inl (cI, 24, .inl (fun c => nI (lf c)))), (g4, .inl (cI, 24, .inl (fun c => nI (rg c)))), (g5, .inl (cI, 16, .inl (fun c => nI (ol c)))), (g6, .inl (cI, 32, .inl (fun c => nI (ln c)))), (g7, .inl (cI, 256, .inl (fun c => nI (pa c)))), (g8, .inl (cI, 256, .inl (fun c => nI (an c))))] [(cI, .int), (cL, .long)] sz)) (va_Qv (fun (u : (Nat → Nat) × (Nat → Nat) × (Nat → Nat)) => ∀ t, t < m → u.2.1 t = pt_n mk (rg_t p vr t) cc ∧ u.2.2 t = fa p vr mk cc gc oc kd lf rg ol none t) (fun (u : (Nat → Nat) × (Nat → Nat) × (Nat → Nat)) t => wq_B (dC, dI) classes [(cI, .int), (cL, .long)] (va_A [(o0, .inr (4, [.int (nI fl), .long (lN p), .int (nI n), .long (lN vr), .int (nI ir), .long (lN od), .int (nI cc), .ref g1, .int (nI gc), .ref g2, .ref g3, .ref g4, .int (nI oc), .ref g5, .ref g6, .ref g7, .ref g8])), (g1, .inl (cL, 8, .inr (.inl (fun c => lN (mk c))))), (g2, .inl (cI, 24, .inl (fun c => nI (kd c)))), (g3, .inl (cI, 24, .inl (fun c => nI (lf c)))), (g4, .inl (cI, 24, .inl (fun c => nI (rg c)))), (g5, .inl (cI, 16, .inl (fun c => nI (ol c)))), (g6, .inl (cI, 32, .inl (fun c => nI (ln c)))), (g7, .inl (cI, 256, .inl (fun c => nI (pa c)))), (g8, .inl (cI, 256, .inl (fun c => nI (an c))))] sz) [(o0, .inr (4, [.int (nI fl), .long (lN p), .int (nI n), .long (lN vr), .int (nI ir), .long (lN od), .int (nI cc), .ref g1, .int (nI gc), .ref g2, .ref g3, .ref g4, .int (nI oc), .ref g5, .ref g6, .ref g7, .ref g8])), (g1, .inl (cL, 8, .inr (.inl (fun c => lN (mk c))))), (g2, .inl (cI, 24, .inl (fun c => nI (kd c)))), (g3, .inl (cI, 24, .inl (fun c => nI (lf c)))), (g4, .inl (cI, 24, .inl (fun c => nI (rg c)))), (g5, .inl (cI, 16, .inl (fun c => nI (ol c)))), (g6, .inl (cI, 32, .inl (fun c => nI ((u).1 c)))), (g7, .inl (cI, 256, .inl (fun c => nI ((u).2.1 c)))), (g8, .inl (cI, 256, .inl (fun c => nI ((u).2.2 c))))] t) (va_A [(o0, .inr (4, [.int (nI fl), .long (lN p), .int (nI n), .long (lN vr), .int (nI ir), .long (lN od), .int (nI cc), .ref g1, .int (nI gc), .ref g2, .ref g3, .ref g4, .int (nI oc), .ref g5, .ref g6, .ref g7, .ref g8])), (g1, .inl (cL, 8, .inr (.inl (fun c => lN (mk c))))), (g2, .inl (cI, 24, .inl (fun c => nI (kd c)))), (g3, .inl (cI, 24, .inl (fun c => nI (lf c)))), (g4, .inl (cI, 24, .inl (fun c => nI (rg c)))), (g5, .inl (cI, 16, .inl (fun c => nI (ol c)))), (g6, .inl (cI, 32, .inl (fun c => nI (ln c)))), (g7, .inl (cI, 256, .inl (fun c => nI (pa c)))), (g8, .inl (cI, 256, .inl (fun c => nI (an c))))] sz)) 0 0 (va_A [(o0, .inr (4, [.int (nI fl), .long (lN p), .int (nI n), .long (lN vr), .int (nI ir), .long (lN od), .int (nI cc), .ref g1, .int (nI gc), .ref g2, .ref g3, .ref g4, .int (nI oc), .ref g5, .ref g6, .ref g7, .ref g8])), (g1, .inl (cL, 8, .inr (.inl (fun c => lN (mk c))))), (g2, .inl (cI, 24, .inl (fun c => nI (kd c)))), (g3, .inl (cI, 24, .inl (fun c => nI (lf c)))), (g4, .inl (cI, 24, .inl (fun c => nI (rg c)))), (g5, .inl (cI, 16, .inl (fun c => nI (ol c)))), (g6, .inl (cI, 32, .inl (fun c => nI (ln c)))), (g7, .inl (cI, 256, .inl (fun c => nI (pa c)))), (g8, .inl (cI, 256, .inl (fun c => nI (an c))))] sz) := by
  refine Met.ofW (cc := b_O_prepare) (maxL := 5) (ret := (Option.none : Option Jvm.ClassFile.FieldType)) (by decide) rfl ?_
  intro pg en st mm ar bw me co s₁ B hml hv
  obtain ⟨rfl, hsz, hP, hK, hD0, hN⟩ := hv
  have hx := B.exec
  have hb := B.bytes
  have hr := B.returns
  have hlocks := B.notSynchronized
  have hts0 := atoms_spec (ws := w_O_prepare) B.pre
  have hts : ∀ w ∈ gw, w.before _ st = true := fun w h => hts0 w (List.mem_cons_of_mem _ h)
  have hown : st.vm.findClass R_O = some mm.cls := findClass_of_methodNamed B.named
  subst hsz
  have hD := hD0.self (sz := st.heap.size)
  generalize hAe : va_A [(o0, .inr (4, [.int (nI fl), .long (lN p), .int (nI n), .long (lN vr), .int (nI ir), .long (lN od), .int (nI cc), .ref g1, .int (nI gc), .ref g2, .ref g3, .ref g4, .int (nI oc), .ref g5, .ref g6, .ref g7, .ref g8])), (g1, .inl (cL, 8, .inr (.inl (fun c => lN (mk c))))), (g2, .inl (cI, 24, .inl (fun c => nI (kd c)))), (g3, .inl (cI, 24, .inl (fun c => nI (lf c)))), (g4, .inl (cI, 24, .inl (fun c => nI (rg c)))), (g5, .inl (cI, 16, .inl (fun c => nI (ol c)))), (g6, .inl (cI, 32, .inl (fun c => nI (ln c)))), (g7, .inl (cI, 256, .inl (fun c => nI (pa c)))), (g8, .inl (cI, 256, .inl (fun c => nI (an c))))] st.heap.size = A at hD ⊢
  have hA : ∀ q : Nat, st.heap.size ≤ q → A q := fun q h => by rw [← hAe]; exact Or.inr h
  have hS : va_S A st.heap st.heap [] := va_S.rf
  have hl := lv_entry ([.ref o0, .int (nI m)]) (n := 5) (Nat.le_of_ble_eq_true rfl)
  rw [lg_entry_eq]
  generalize (lg_sl ([.ref o0, .int (nI m)]) ++ List.replicate (5 - (lg_sl ([.ref o0, .int (nI m)])).length) Slot.unset).toArray = ls at hl ⊢
  have hl : lv_has ls 5 [(0, .ref o0), (1, .int (nI m))] := hl
  have h1 := hk.1
  have h2 := hk.2.1
  have h3 := hk.2.2.1
  have loop : ∀ (j t : Nat) (u1 u2 u3 : Nat → Nat), j + t = m → (∀ i, i < t → u2 i = pt_n mk (rg_t p vr i) cc ∧ u3 i = fa p vr mk cc gc oc kd lf rg ol none i) → ∀ (H : Heap) (locs : List Loc), va_P (dC, dI) classes [(o0, .inr (4, [.int (nI fl), .long (lN p), .int (nI n), .long (lN vr), .int (nI ir), .long (lN od), .int (nI cc), .ref g1, .int (nI gc), .ref g2, .ref g3, .ref g4, .int (nI oc), .ref g5, .ref g6, .ref g7, .ref g8])), (g1, .inl (cL, 8, .inr (.inl (fun c => lN (mk c))))), (g2, .inl (cI, 24, .inl (fun c => nI (kd c)))), (g3, .inl (cI, 24, .inl (fun c => nI (lf c)))), (g4, .inl (cI, 24, .inl (fun c => nI (rg c)))), (g5, .inl (cI, 16, .inl (fun c => nI (ol c)))), (g6, .inl (cI, 32, .inl (fun c => nI (u1 c)))), (g7, .inl (cI, 256, .inl (fun c => nI (u2 c)))), (g8, .inl (cI, 256, .inl (fun c => nI (u3 c))))] H → va_D A [(o0, .inr (4, [.int (nI fl), .long (lN p), .int (nI n), .long (lN vr), .int (nI ir), .long (lN od), .int (nI cc), .ref g1, .int (nI gc), .ref g2, .ref g3, .ref g4, .int (nI oc), .ref g5, .ref g6, .ref g7, .ref g8])), (g1, .inl (cL, 8, .inr (.inl (fun c => lN (mk c))))), (g2, .inl (cI, 24, .inl (fun c => nI (kd c)))), (g3, .inl (cI, 24, .inl (fun c => nI (lf c)))), (g4, .inl (cI, 24, .inl (fun c => nI (rg c)))), (g5, .inl (cI, 16, .inl (fun c => nI (ol c)))), (g6, .inl (cI, 32, .inl (fun c => nI (u1 c)))), (g7, .inl (cI, 256, .inl (fun c => nI (u2 c)))), (g8, .inl (cI, 256, .inl (fun c => nI (u3 c))))] → va_S A st.heap H locs → ∀ (ls : Array Slot), lv_has ls 5 [(0, .ref o0), (1, .int (nI m)), (2, .long (lN (rg_t p vr t))), (4, .int (nI t))] → W pg l en (headSpec w_O_prepare ({ frames := 2, cells := 0, slots := 0, locals := 46 } : Room)).room st mm ([.ref o0, .int (nI m)] : List Value).toArray bw me co H locs 0 0 (MQ bw (va_Qv (fun (u : (Nat → Nat) × (Nat → Nat) × (Nat → Nat)) => ∀ t, t < m → u.2.1 t = pt_n mk (rg_t p vr t) cc ∧ u.2.2 t = fa p vr mk cc gc oc kd lf rg ol none t) (fun (u : (Nat → Nat) × (Nat → Nat) × (Nat → Nat)) t => wq_B (dC, dI) classes [(cI, .int), (cL, .long)] A [(o0, .inr (4, [.int (nI fl), .long (lN p), .int (nI n), .long (lN vr), .int (nI ir), .long (lN od), .int (nI cc), .ref g1, .int (nI gc), .ref g2, .ref g3, .ref g4, .int (nI oc), .ref g5, .ref g6, .ref g7, .ref g8])), (g1, .inl (cL, 8, .inr (.inl (fun c => lN (mk c))))), (g2, .inl (cI, 24, .inl (fun c => nI (kd c)))), (g3, .inl (cI, 24, .inl (fun c => nI (lf c)))), (g4, .inl (cI, 24, .inl (fun c => nI (rg c)))), (g5, .inl (cI, 16, .inl (fun c => nI (ol c)))), (g6, .inl (cI, 32, .inl (fun c => nI ((u).1 c)))), (g7, .inl (cI, 256, .inl (fun c => nI ((u).2.1 c)))), (g8, .inl (cI, 256, .inl (fun c => nI ((u).2.2 c))))] t) A) ([.ref o0, .int (nI m)] : List Value).toArray st 0 0 A) (F0 mm 8 ls []) := by
    intro j
    induction j with
    | zero =>
      intro t u1 u2 u3 hj hI H locs hP hD hS ls hl
      refine lv_iload hx hb d_O_prepare_8 (lv_at hl 3 rfl) ?_
      refine lv_iload_n hx hb d_O_prepare_10 rfl (lv_at hl 1 rfl) ?_
      refine lv_icmp_ge (tgt := 57) hx hb d_O_prepare_11 (by decide) (fun hc => ?_) (fun hc => ?_)
      · have hi : t = m := by omega
        rw [hi] at hI
        have hP := hP.sub (ws' := [(o0, .inr (4, [.int (nI fl), .long (lN p), .int (nI n), .long (lN vr), .int (nI ir), .long (lN od), .int (nI cc), .ref g1, .int (nI gc), .ref g2, .ref g3, .ref g4, .int (nI oc), .ref g5, .ref g6, .ref g7, .ref g8])), (g1, .inl (cL, 8, .inr (.inl (fun c => lN (mk c))))), (g2, .inl (cI, 24, .inl (fun c => nI (kd c)))), (g3, .inl (cI, 24, .inl (fun c => nI (lf c)))), (g4, .inl (cI, 24, .inl (fun c => nI (rg c)))), (g5, .inl (cI, 16, .inl (fun c => nI (ol c)))), (g6, .inl (cI, 32, .inl (fun c => nI (u1 c)))), (g7, .inl (cI, 256, .inl (fun c => nI (u2 c)))), (g8, .inl (cI, 256, .inl (fun c => nI (u3 c))))]) [0, 1, 2, 3, 4, 5, 6, 7, 8] rfl
        have hD := hD.sub (ws' := [(o0, .inr (4, [.int (nI fl), .long (lN p), .int (nI n), .long (lN vr), .int (nI ir), .long (lN od), .int (nI cc), .ref g1, .int (nI gc), .ref g2, .ref g3, .ref g4, .int (nI oc), .ref g5, .ref g6, .ref g7, .ref g8])), (g1, .inl (cL, 8, .inr (.inl (fun c => lN (mk c))))), (g2, .inl (cI, 24, .inl (fun c => nI (kd c)))), (g3, .inl (cI, 24, .inl (fun c => nI (lf c)))), (g4, .inl (cI, 24, .inl (fun c => nI (rg c)))), (g5, .inl (cI, 16, .inl (fun c => nI (ol c)))), (g6, .inl (cI, 32, .inl (fun c => nI (u1 c)))), (g7, .inl (cI, 256, .inl (fun c => nI (u2 c)))), (g8, .inl (cI, 256, .inl (fun c => nI (u3 c))))]) [0, 1, 2, 3, 4, 5, 6, 7, 8] (by decide) rfl
        exact W.vret hx hb hr (fun t9 ht hW => ⟨⟨(u1, u2, u3), rfl, hI, by rw [ht]; exact hP, va_K.moved hW.alike hK, hD⟩, hS.F ht⟩) hS.2.2 d_O_prepare_57
      · exact absurd ((nI_leI (by omega) (by omega)).mpr (by omega)) hc
    | succ j ih =>
      intro t u1 u2 u3 hj hI H locs hP hD hS ls hl
      have hrl := rg_lt hm hvr t
      have hrl2 := res_lt hm hrl
      have hpl := pt_lt mk (rg_t p vr t) cc
      have hp8 : 2 ^ cc ≤ 2 ^ 8 := Nat.pow_le_pow_right (by decide) h1
      refine lv_iload hx hb d_O_prepare_8 (lv_at hl 3 rfl) ?_
      refine lv_iload_n hx hb d_O_prepare_10 rfl (lv_at hl 1 rfl) ?_
      refine lv_icmp_ge (tgt := 57) hx hb d_O_prepare_11 (by decide) (fun hc => ?_) (fun hc => ?_)
      · exact absurd ((nI_leI (by omega) (by omega)).mp hc) (by omega)
      · refine lv_aload_n hx hb d_O_prepare_14 rfl (lv_at hl 0 rfl) ?_
        refine va_get (D := (dC, dI)) (ci := 4) (v := .ref g7) (C := R_O) (T := F_O) (N := 17) hx hb hts in_O hown hK hP 0 rfl rfl 15 (by decide) (hts _ kw_543) (fun _ h9 => h9) rfl d_O_prepare_15 ?_
        refine lv_iload hx hb d_O_prepare_18 (lv_at hl 3 rfl) ?_
        refine lv_aload_n hx hb d_O_prepare_20 rfl (lv_at hl 0 rfl) ?_
        refine lv_lload_n hx hb d_O_prepare_21 rfl (lv_at hl 2 rfl) ?_
        refine vp_callSi (va_Run.run (va_runV (As := [.long (lN (rg_t p vr t))]) (rest := [.int (nI t), .ref g7]) ⟨hx, hb, hml, hown, hts⟩ (c_O_patternOf l dC dI cI cL o0 g1 g2 g3 g4 g5 g6 g7 g8 fl p n vr ir od cc gc oc mk hmk h1 (rg_t p vr t) (by omega)) (cwV 1 hts (gi_V kw_665 kw_667 ks_O_patternOf kw_5 gi_O_patternOf) rfl rfl rfl ⟨rfl, by decide, by decide, by decide⟩ ⟨Nat.le_of_ble_eq_true rfl, Nat.le_of_ble_eq_true rfl⟩) (wq_preVR hP hK hN [0, 1] rfl (q0 := 0) (ci := 4) rfl rfl rfl) rfl rfl hl.1 rfl (lv_room (Nat.le_of_ble_eq_true rfl)) d_O_prepare_22 ⟨Nat.le_of_ble_eq_true rfl, Nat.le_of_ble_eq_true rfl⟩)) (fun r hq => ?_)
        subst hq
        refine va_iast (D := (dC, dI)) (i := (nI t)) (x := (nI (pt_n mk (rg_t p vr t) cc))) hx hb hK hP hD hS 7 0 rfl rfl (vp_in_nI (by omega) (by decide)) d_O_prepare_25 (fun H locs hP hD hS => ?_)
        rw [nI_clamp (by omega), upd_nI] at hP hD
        have hP : va_P (dC, dI) classes [(o0, .inr (4, [.int (nI fl), .long (lN p), .int (nI n), .long (lN vr), .int (nI ir), .long (lN od), .int (nI cc), .ref g1, .int (nI gc), .ref g2, .ref g3, .ref g4, .int (nI oc), .ref g5, .ref g6, .ref g7, .ref g8])), (g1, .inl (cL, 8, .inr (.inl (fun c => lN (mk c))))), (g2, .inl (cI, 24, .inl (fun c => nI (kd c)))), (g3, .inl (cI, 24, .inl (fun c => nI (lf c)))), (g4, .inl (cI, 24, .inl (fun c => nI (rg c)))), (g5, .inl (cI, 16, .inl (fun c => nI (ol c)))), (g6, .inl (cI, 32, .inl (fun c => nI (u1 c)))), (g7, .inl (cI, 256, .inl (fun c => nI ((va_up u2 t (pt_n mk (rg_t p vr t) cc)) c)))), (g8, .inl (cI, 256, .inl (fun c => nI (u3 c))))] H := hP
        have hD : va_D A [(o0, .inr (4, [.int (nI fl), .long (lN p), .int (nI n), .long (lN vr), .int (nI ir), .long (lN od), .int (nI cc), .ref g1, .int (nI gc), .ref g2, .ref g3, .ref g4, .int (nI oc), .ref g5, .ref g6, .ref g7, .ref g8])), (g1, .inl (cL, 8, .inr (.inl (fun c => lN (mk c))))), (g2, .inl (cI, 24, .inl (fun c => nI (kd c)))), (g3, .inl (cI, 24, .inl (fun c => nI (lf c)))), (g4, .inl (cI, 24, .inl (fun c => nI (rg c)))), (g5, .inl (cI, 16, .inl (fun c => nI (ol c)))), (g6, .inl (cI, 32, .inl (fun c => nI (u1 c)))), (g7, .inl (cI, 256, .inl (fun c => nI ((va_up u2 t (pt_n mk (rg_t p vr t) cc)) c)))), (g8, .inl (cI, 256, .inl (fun c => nI (u3 c))))] := hD
        refine lv_aload_n hx hb d_O_prepare_26 rfl (lv_at hl 0 rfl) ?_
        refine va_get (D := (dC, dI)) (ci := 4) (v := .ref g8) (C := R_O) (T := F_O) (N := 17) hx hb hts in_O hown hK hP 0 rfl rfl 16 (by decide) (hts _ kw_544) (fun _ h9 => h9) rfl d_O_prepare_27 ?_
        refine lv_iload hx hb d_O_prepare_30 (lv_at hl 3 rfl) ?_
        refine lv_aload_n hx hb d_O_prepare_32 rfl (lv_at hl 0 rfl) ?_
        refine lv_aload_n hx hb d_O_prepare_33 rfl (lv_at hl 0 rfl) ?_
        refine va_get (D := (dC, dI)) (ci := 4) (v := .ref g7) (C := R_O) (T := F_O) (N := 17) hx hb hts in_O hown hK hP 0 rfl rfl 15 (by decide) (hts _ kw_543) (fun _ h9 => h9) rfl d_O_prepare_34 ?_
        refine lv_iload hx hb d_O_prepare_37 (lv_at hl 3 rfl) ?_
        refine va_iald (D := (dC, dI)) hx hb hK hP 7 0 rfl rfl (vp_in_nI (by omega) (by decide)) d_O_prepare_39 ?_
        refine lv_topi (nm_r (show _ = nI ((va_up u2 t (pt_n mk (rg_t p vr t) cc)) t) from congrArg (fun c => nI ((va_up u2 t (pt_n mk (rg_t p vr t) cc)) c)) (nI_clamp (by omega))) ?_)
        refine lv_topi (nm_r (show _ = nI (pt_n mk (rg_t p vr t) cc) from by rw [va_up_self]) ?_)
        refine lv_iconst (v := (-1)) hx hb d_O_prepare_40 (by decide) ?_
        refine wq_i (wr := [(g1, .inl (cL, 8, .inr (.inl (fun c => lN (mk c))))), (g7, .inl (cI, 256, .inl (fun c => nI ((va_up u2 t (pt_n mk (rg_t p vr t) cc)) c)))), (g8, .inl (cI, 256, .inl (fun c => nI (u3 c))))]) (va_runV (As := [.int (nI (pt_n mk (rg_t p vr t) cc)), .int (-1)]) (rest := [.int (nI t), .ref g8]) ⟨hx, hb, hml, hown, hts⟩ (c_O_answerToN l dC dI cI cL H.size o0 g1 g2 g3 g4 g5 g6 g7 g8 fl p n vr ir od cc gc oc kd lf rg ol hk u1 (pt_n mk (rg_t p vr t) cc) (by omega)) (cwV 2 hts (gi_V kw_689 kw_691 ks_O_answerTo kw_5 gi_O_answerTo) rfl rfl rfl ⟨rfl, by decide, by decide, by decide⟩ ⟨Nat.le_of_ble_eq_true rfl, Nat.le_of_ble_eq_true rfl⟩) (wq_preVW hP hD hK hN [0, 2, 3, 4, 5, 6] rfl rfl (q0 := 0) (ci := 4) rfl rfl rfl) rfl rfl hl.1 rfl (lv_room (Nat.le_of_ble_eq_true rfl)) d_O_prepare_41 ⟨Nat.le_of_ble_eq_true rfl, Nat.le_of_ble_eq_true rfl⟩) hP hD hS hA [0, 2, 3, 4, 5, 6] [1, 7, 8] rfl rfl rfl (by decide) (fun r2 v1 H locs hq2 hP hD hS hz => ?_)
        have hP : va_P (dC, dI) classes [(g1, .inl (cL, 8, .inr (.inl (fun c => lN (mk c))))), (g7, .inl (cI, 256, .inl (fun c => nI ((va_up u2 t (pt_n mk (rg_t p vr t) cc)) c)))), (g8, .inl (cI, 256, .inl (fun c => nI (u3 c)))), (o0, .inr (4, [.int (nI fl), .long (lN p), .int (nI n), .long (lN vr), .int (nI ir), .long (lN od), .int (nI cc), .ref g1, .int (nI gc), .ref g2, .ref g3, .ref g4, .int (nI oc), .ref g5, .ref g6, .ref g7, .ref g8])), (g2, .inl (cI, 24, .inl (fun c => nI (kd c)))), (g3, .inl (cI, 24, .inl (fun c => nI (lf c)))), (g4, .inl (cI, 24, .inl (fun c => nI (rg c)))), (g5, .inl (cI, 16, .inl (fun c => nI (ol c)))), (g6, .inl (cI, 32, .inl (fun c => nI (v1 c))))] H := hP
        have hD : va_D A [(g1, .inl (cL, 8, .inr (.inl (fun c => lN (mk c))))), (g7, .inl (cI, 256, .inl (fun c => nI ((va_up u2 t (pt_n mk (rg_t p vr t) cc)) c)))), (g8, .inl (cI, 256, .inl (fun c => nI (u3 c)))), (o0, .inr (4, [.int (nI fl), .long (lN p), .int (nI n), .long (lN vr), .int (nI ir), .long (lN od), .int (nI cc), .ref g1, .int (nI gc), .ref g2, .ref g3, .ref g4, .int (nI oc), .ref g5, .ref g6, .ref g7, .ref g8])), (g2, .inl (cI, 24, .inl (fun c => nI (kd c)))), (g3, .inl (cI, 24, .inl (fun c => nI (lf c)))), (g4, .inl (cI, 24, .inl (fun c => nI (rg c)))), (g5, .inl (cI, 16, .inl (fun c => nI (ol c)))), (g6, .inl (cI, 32, .inl (fun c => nI (v1 c))))] := hD
        have hq2 : r2 = nI (fa p vr mk cc gc oc kd lf rg ol none t) := hq2
        subst hq2
        refine va_iast (D := (dC, dI)) (i := (nI t)) (x := (nI (fa p vr mk cc gc oc kd lf rg ol none t))) hx hb hK hP hD hS 2 0 rfl rfl (vp_in_nI (by omega) (by decide)) d_O_prepare_44 (fun H locs hP hD hS => ?_)
        rw [nI_clamp (by omega), upd_nI] at hP hD
        have hP : va_P (dC, dI) classes [(g1, .inl (cL, 8, .inr (.inl (fun c => lN (mk c))))), (g7, .inl (cI, 256, .inl (fun c => nI ((va_up u2 t (pt_n mk (rg_t p vr t) cc)) c)))), (g8, .inl (cI, 256, .inl (fun c => nI ((va_up u3 t (fa p vr mk cc gc oc kd lf rg ol none t)) c)))), (o0, .inr (4, [.int (nI fl), .long (lN p), .int (nI n), .long (lN vr), .int (nI ir), .long (lN od), .int (nI cc), .ref g1, .int (nI gc), .ref g2, .ref g3, .ref g4, .int (nI oc), .ref g5, .ref g6, .ref g7, .ref g8])), (g2, .inl (cI, 24, .inl (fun c => nI (kd c)))), (g3, .inl (cI, 24, .inl (fun c => nI (lf c)))), (g4, .inl (cI, 24, .inl (fun c => nI (rg c)))), (g5, .inl (cI, 16, .inl (fun c => nI (ol c)))), (g6, .inl (cI, 32, .inl (fun c => nI (v1 c))))] H := hP
        have hD : va_D A [(g1, .inl (cL, 8, .inr (.inl (fun c => lN (mk c))))), (g7, .inl (cI, 256, .inl (fun c => nI ((va_up u2 t (pt_n mk (rg_t p vr t) cc)) c)))), (g8, .inl (cI, 256, .inl (fun c => nI ((va_up u3 t (fa p vr mk cc gc oc kd lf rg ol none t)) c)))), (o0, .inr (4, [.int (nI fl), .long (lN p), .int (nI n), .long (lN vr), .int (nI ir), .long (lN od), .int (nI cc), .ref g1, .int (nI gc), .ref g2, .ref g3, .ref g4, .int (nI oc), .ref g5, .ref g6, .ref g7, .ref g8])), (g2, .inl (cI, 24, .inl (fun c => nI (kd c)))), (g3, .inl (cI, 24, .inl (fun c => nI (lf c)))), (g4, .inl (cI, 24, .inl (fun c => nI (rg c)))), (g5, .inl (cI, 16, .inl (fun c => nI (ol c)))), (g6, .inl (cI, 32, .inl (fun c => nI (v1 c))))] := hD
        refine lv_aload_n hx hb d_O_prepare_45 rfl (lv_at hl 0 rfl) ?_
        refine lv_lload_n hx hb d_O_prepare_46 rfl (lv_at hl 2 rfl) ?_
        refine vp_callSl (va_Run.run (va_runV (As := [.long (lN (rg_t p vr t))]) (rest := []) ⟨hx, hb, hml, hown, hts⟩ (c_O_step l dC dI cI cL o0 g1 g2 g3 g4 g5 g6 g7 g8 fl p n vr ir od cc gc oc hm _ hrl) (cwV 1 hts (gi_V kw_608 kw_610 ks_O_step kw_5 gi_O_step) rfl rfl rfl ⟨rfl, by decide, by decide, by decide⟩ ⟨Nat.le_of_ble_eq_true rfl, Nat.le_of_ble_eq_true rfl⟩) (wq_preVR hP hK hN [3] rfl (q0 := 3) (ci := 4) rfl rfl rfl) rfl rfl hl.1 rfl (lv_room (Nat.le_of_ble_eq_true rfl)) d_O_prepare_47 ⟨Nat.le_of_ble_eq_true rfl, Nat.le_of_ble_eq_true rfl⟩)) (fun r5 hq5 => ?_)
        subst hq5
        refine lv_lstore_n (lv' := [(2, .long (lN (rg_t p vr (t + 1)))), (0, .ref o0), (1, .int (nI m)), (4, .int (nI t))]) hx hb d_O_prepare_50 rfl hl (by decide) rfl (fun ls hl => ?_)
        refine lv_iinc (v := nI (t + 1)) (lv' := [(4, .int (nI (t + 1))), (2, .long (lN (rg_t p vr (t + 1)))), (0, .ref o0), (1, .int (nI m))]) hx hb d_O_prepare_51 hl (k := 3) rfl (nI_1 t) (by decide) rfl (fun ls hl => ?_)
        refine lv_goto (tgt := 8) hx hb d_O_prepare_54 (by decide) ?_
        have hl := lv_sub (l' := [(0, .ref o0), (1, .int (nI m)), (2, .long (lN (rg_t p vr (t + 1)))), (4, .int (nI (t + 1)))]) hl [2, 3, 1, 0] rfl
        have hP := hP.sub (ws' := [(o0, .inr (4, [.int (nI fl), .long (lN p), .int (nI n), .long (lN vr), .int (nI ir), .long (lN od), .int (nI cc), .ref g1, .int (nI gc), .ref g2, .ref g3, .ref g4, .int (nI oc), .ref g5, .ref g6, .ref g7, .ref g8])), (g1, .inl (cL, 8, .inr (.inl (fun c => lN (mk c))))), (g2, .inl (cI, 24, .inl (fun c => nI (kd c)))), (g3, .inl (cI, 24, .inl (fun c => nI (lf c)))), (g4, .inl (cI, 24, .inl (fun c => nI (rg c)))), (g5, .inl (cI, 16, .inl (fun c => nI (ol c)))), (g6, .inl (cI, 32, .inl (fun c => nI (v1 c)))), (g7, .inl (cI, 256, .inl (fun c => nI ((va_up u2 t (pt_n mk (rg_t p vr t) cc)) c)))), (g8, .inl (cI, 256, .inl (fun c => nI ((va_up u3 t (fa p vr mk cc gc oc kd lf rg ol none t)) c))))]) [3, 0, 4, 5, 6, 7, 8, 1, 2] rfl
        have hD := hD.sub (ws' := [(o0, .inr (4, [.int (nI fl), .long (lN p), .int (nI n), .long (lN vr), .int (nI ir), .long (lN od), .int (nI cc), .ref g1, .int (nI gc), .ref g2, .ref g3, .ref g4, .int (nI oc), .ref g5, .ref g6, .ref g7, .ref g8])), (g1, .inl (cL, 8, .inr (.inl (fun c => lN (mk c))))), (g2, .inl (cI, 24, .inl (fun c => nI (kd c)))), (g3, .inl (cI, 24, .inl (fun c => nI (lf c)))), (g4, .inl (cI, 24, .inl (fun c => nI (rg c)))), (g5, .inl (cI, 16, .inl (fun c => nI (ol c)))), (g6, .inl (cI, 32, .inl (fun c => nI (v1 c)))), (g7, .inl (cI, 256, .inl (fun c => nI ((va_up u2 t (pt_n mk (rg_t p vr t) cc)) c)))), (g8, .inl (cI, 256, .inl (fun c => nI ((va_up u3 t (fa p vr mk cc gc oc kd lf rg ol none t)) c))))]) [3, 0, 4, 5, 6, 7, 8, 1, 2] (by decide) rfl
        exact ih (t + 1) v1 (va_up u2 t (pt_n mk (rg_t p vr t) cc)) (va_up u3 t (fa p vr mk cc gc oc kd lf rg ol none t)) (by omega) (fun i hi => by
          by_cases e9 : i = t
          · rw [e9, va_up_self, va_up_self]; exact ⟨rfl, rfl⟩
          · rw [va_up_ne _ _ e9, va_up_ne _ _ e9]; exact hI i (by omega)) H locs hP hD hS ls hl
  refine lv_aload_n hx hb d_O_prepare_0 rfl (lv_at hl 0 rfl) ?_
  refine va_get (D := (dC, dI)) (ci := 4) (v := .long (lN vr)) (C := R_O) (T := F_O) (N := 17) hx hb hts in_O hown hK hP 0 rfl rfl 3 (by decide) (hts _ kw_531) (fun _ h9 => h9) rfl d_O_prepare_1 ?_
  refine lv_lstore_n (lv' := [(2, .long (lN vr)), (0, .ref o0), (1, .int (nI m))]) hx hb d_O_prepare_4 rfl hl (by decide) rfl (fun ls hl => ?_)
  refine lv_iconst (v := nI 0) hx hb d_O_prepare_5 (by decide) ?_
  refine lv_istore (lv' := [(4, .int (nI 0)), (2, .long (lN vr)), (0, .ref o0), (1, .int (nI m))]) hx hb d_O_prepare_6 hl (by decide) rfl (fun ls hl => ?_)
  have hl := lv_sub (l' := [(0, .ref o0), (1, .int (nI m)), (2, .long (lN vr)), (4, .int (nI 0))]) hl [2, 3, 1, 0] rfl
  exact loop m 0 ln pa an rfl (fun i hi => absurd hi (Nat.not_lt_zero i)) _ _ hP hD hS ls hl
set_option maxHeartbeats 4000000 in
set_option maxRecDepth 100000 in
theorem c_O_signatureN (l : Launch) (dC : Nat → ClassId) (dI : Nat → Nat → Nat) (cI cL : ClassId) (sz : Nat) (o0 g1 g2 g3 g4 g5 g6 g7 g8 : Nat) (fl p n vr ir od cc gc oc : Nat) (hm : md p n) (kd lf rg ol : Nat → Nat) (hk : ck cc gc oc kd lf rg ol) (mk : Nat → Nat) (hmk : ∀ c, c < cc → mk c < 2 ^ 32) (ln pa : Nat → Nat) (m : Nat) (hmm : m ≤ 256) (hpa : ∀ t, t < m → pa t = pt_n mk (rg_t p vr t) cc) : Met l y_O_signature w_O_signature ({ frames := 2, cells := 0, slots := 0, locals := 49 } : Room) (va_Pc [.ref o0, .int (nI m), .int (-1)] (wq_W (dC, dI) classes [(o0, .inr (4, [.int (nI fl), .long (lN p), .int (nI n), .long (lN vr), .int (nI ir), .long (lN od), .int (nI cc), .ref g1, .int (nI gc), .ref g2, .ref g3, .ref g4, .int (nI oc), .ref g5, .ref g6, .ref g7, .ref g8])), (g2, .inl (cI, 24, .inl (fun c => nI (kd c)))), (g3, .inl (cI, 24, .inl (fun c => nI (lf c)))), (g4, .inl (cI, 24, .inl (fun c => nI (rg c)))), (g5, .inl (cI, 16, .inl (fun c => nI (ol c)))), (g6, .inl (cI, 32, .inl (fun c => nI (ln c)))), (g7, .inl (cI, 256, .inl (fun c => nI (pa c))))] [(cI, .int), (cL, .long)] sz)) (va_Ql (fun (r : Int64) (u : Nat → Nat) => r = lN (sg p (fun t => fa p vr mk cc gc oc kd lf rg ol none t) m)) (fun (u : Nat → Nat) t => wq_B (dC, dI) classes [(cI, .int), (cL, .long)] (va_A [(o0, .inr (4, [.int (nI fl), .long (lN p), .int (nI n), .long (lN vr), .int (nI ir), .long (lN od), .int (nI cc), .ref g1, .int (nI gc), .ref g2, .ref g3, .ref g4, .int (nI oc), .ref g5, .ref g6, .ref g7, .ref g8])), (g2, .inl (cI, 24, .inl (fun c => nI (kd c)))), (g3, .inl (cI, 24, .inl (fun c => nI (lf c)))), (g4, .inl (cI, 24, .inl (fun c => nI (rg c)))), (g5, .inl (cI, 16, .inl (fun c => nI (ol c)))), (g6, .inl (cI, 32, .inl (fun c => nI (ln c)))), (g7, .inl (cI, 256, .inl (fun c => nI (pa c))))] sz) [(o0, .inr (4, [.int (nI fl), .long (lN p), .int (nI n), .long (lN vr), .int (nI ir), .long (lN od), .int (nI cc), .ref g1, .int (nI gc), .ref g2, .ref g3, .ref g4, .int (nI oc), .ref g5, .ref g6, .ref g7, .ref g8])), (g2, .inl (cI, 24, .inl (fun c => nI (kd c)))), (g3, .inl (cI, 24, .inl (fun c => nI (lf c)))), (g4, .inl (cI, 24, .inl (fun c => nI (rg c)))), (g5, .inl (cI, 16, .inl (fun c => nI (ol c)))), (g6, .inl (cI, 32, .inl (fun c => nI (u c)))), (g7, .inl (cI, 256, .inl (fun c => nI (pa c))))] t) (va_A [(o0, .inr (4, [.int (nI fl), .long (lN p), .int (nI n), .long (lN vr), .int (nI ir), .long (lN od), .int (nI cc), .ref g1, .int (nI gc), .ref g2, .ref g3, .ref g4, .int (nI oc), .ref g5, .ref g6, .ref g7, .ref g8])), (g2, .inl (cI, 24, .inl (fun c => nI (kd c)))), (g3, .inl (cI, 24, .inl (fun c => nI (lf c)))), (g4, .inl (cI, 24, .inl (fun c => nI (rg c)))), (g5, .inl (cI, 16, .inl (fun c => nI (ol c)))), (g6, .inl (cI, 32, .inl (fun c => nI (ln c)))), (g7, .inl (cI, 256, .inl (fun c => nI (pa c))))] sz)) 0 0 (va_A [(o0, .inr (4, [.int (nI fl), .long (lN p), .int (nI n), .long (lN vr), .int (nI ir), .long (lN od), .int (nI cc), .ref g1, .int (nI gc), .ref g2, .ref g3, .ref g4, .int (nI oc), .ref g5, .ref g6, .ref g7, .ref g8])), (g2, .inl (cI, 24, .inl (fun c => nI (kd c)))), (g3, .inl (cI, 24, .inl (fun c => nI (lf c)))), (g4, .inl (cI, 24, .inl (fun c => nI (rg c)))), (g5, .inl (cI, 16, .inl (fun c => nI (ol c)))), (g6, .inl (cI, 32, .inl (fun c => nI (ln c)))), (g7, .inl (cI, 256, .inl (fun c => nI (pa c))))] sz) := by
  refine Met.ofW (cc := b_O_signature) (maxL := 6) (ret := (Option.some Jvm.ClassFile.FieldType.long)) (by decide) rfl ?_
  intro pg en st mm ar bw me co s₁ B hml hv
  obtain ⟨rfl, hsz, hP, hK, hD0, hN⟩ := hv
  have hx := B.exec
  have hb := B.bytes
  have hr := B.returns
  have hlocks := B.notSynchronized
  have hts0 := atoms_spec (ws := w_O_signature) B.pre
  have hts : ∀ w ∈ gw, w.before _ st = true := fun w h => hts0 w (List.mem_cons_of_mem _ h)
  have hown : st.vm.findClass R_O = some mm.cls := findClass_of_methodNamed B.named
  subst hsz
  have hD := hD0.self (sz := st.heap.size)
  generalize hAe : va_A [(o0, .inr (4, [.int (nI fl), .long (lN p), .int (nI n), .long (lN vr), .int (nI ir), .long (lN od), .int (nI cc), .ref g1, .int (nI gc), .ref g2, .ref g3, .ref g4, .int (nI oc), .ref g5, .ref g6, .ref g7, .ref g8])), (g2, .inl (cI, 24, .inl (fun c => nI (kd c)))), (g3, .inl (cI, 24, .inl (fun c => nI (lf c)))), (g4, .inl (cI, 24, .inl (fun c => nI (rg c)))), (g5, .inl (cI, 16, .inl (fun c => nI (ol c)))), (g6, .inl (cI, 32, .inl (fun c => nI (ln c)))), (g7, .inl (cI, 256, .inl (fun c => nI (pa c))))] st.heap.size = A at hD ⊢
  have hA : ∀ q : Nat, st.heap.size ≤ q → A q := fun q h => by rw [← hAe]; exact Or.inr h
  have hS : va_S A st.heap st.heap [] := va_S.rf
  have hl := lv_entry ([.ref o0, .int (nI m), .int (-1)]) (n := 6) (Nat.le_of_ble_eq_true rfl)
  rw [lg_entry_eq]
  generalize (lg_sl ([.ref o0, .int (nI m), .int (-1)]) ++ List.replicate (6 - (lg_sl ([.ref o0, .int (nI m), .int (-1)])).length) Slot.unset).toArray = ls at hl ⊢
  have hl : lv_has ls 6 [(0, .ref o0), (1, .int (nI m)), (2, .int (-1))] := hl
  have h1 := hk.1
  have h2 := hk.2.1
  have h3 := hk.2.2.1
  have loop : ∀ (j t : Nat) (u : Nat → Nat), j + t = m → ∀ (H : Heap) (locs : List Loc), va_P (dC, dI) classes [(o0, .inr (4, [.int (nI fl), .long (lN p), .int (nI n), .long (lN vr), .int (nI ir), .long (lN od), .int (nI cc), .ref g1, .int (nI gc), .ref g2, .ref g3, .ref g4, .int (nI oc), .ref g5, .ref g6, .ref g7, .ref g8])), (g2, .inl (cI, 24, .inl (fun c => nI (kd c)))), (g3, .inl (cI, 24, .inl (fun c => nI (lf c)))), (g4, .inl (cI, 24, .inl (fun c => nI (rg c)))), (g5, .inl (cI, 16, .inl (fun c => nI (ol c)))), (g6, .inl (cI, 32, .inl (fun c => nI (u c)))), (g7, .inl (cI, 256, .inl (fun c => nI (pa c))))] H → va_D A [(o0, .inr (4, [.int (nI fl), .long (lN p), .int (nI n), .long (lN vr), .int (nI ir), .long (lN od), .int (nI cc), .ref g1, .int (nI gc), .ref g2, .ref g3, .ref g4, .int (nI oc), .ref g5, .ref g6, .ref g7, .ref g8])), (g2, .inl (cI, 24, .inl (fun c => nI (kd c)))), (g3, .inl (cI, 24, .inl (fun c => nI (lf c)))), (g4, .inl (cI, 24, .inl (fun c => nI (rg c)))), (g5, .inl (cI, 16, .inl (fun c => nI (ol c)))), (g6, .inl (cI, 32, .inl (fun c => nI (u c)))), (g7, .inl (cI, 256, .inl (fun c => nI (pa c))))] → va_S A st.heap H locs → ∀ (ls : Array Slot), lv_has ls 6 [(0, .ref o0), (1, .int (nI m)), (2, .int (-1)), (3, .long (lN (sg p (fun t => fa p vr mk cc gc oc kd lf rg ol none t) t))), (5, .int (nI t))] → W pg l en (headSpec w_O_signature ({ frames := 2, cells := 0, slots := 0, locals := 49 } : Room)).room st mm ([.ref o0, .int (nI m), .int (-1)] : List Value).toArray bw me co H locs 0 0 (MQ bw (va_Ql (fun (r : Int64) (u : Nat → Nat) => r = lN (sg p (fun t => fa p vr mk cc gc oc kd lf rg ol none t) m)) (fun (u : Nat → Nat) t => wq_B (dC, dI) classes [(cI, .int), (cL, .long)] A [(o0, .inr (4, [.int (nI fl), .long (lN p), .int (nI n), .long (lN vr), .int (nI ir), .long (lN od), .int (nI cc), .ref g1, .int (nI gc), .ref g2, .ref g3, .ref g4, .int (nI oc), .ref g5, .ref g6, .ref g7, .ref g8])), (g2, .inl (cI, 24, .inl (fun c => nI (kd c)))), (g3, .inl (cI, 24, .inl (fun c => nI (lf c)))), (g4, .inl (cI, 24, .inl (fun c => nI (rg c)))), (g5, .inl (cI, 16, .inl (fun c => nI (ol c)))), (g6, .inl (cI, 32, .inl (fun c => nI (u c)))), (g7, .inl (cI, 256, .inl (fun c => nI (pa c))))] t) A) ([.ref o0, .int (nI m), .int (-1)] : List Value).toArray st 0 0 A) (F0 mm 5 ls []) := by
    intro j
    induction j with
    | zero =>
      intro t u hj H locs hP hD hS ls hl
      refine lv_iload hx hb d_O_signature_5 (lv_at hl 4 rfl) ?_
      refine lv_iload_n hx hb d_O_signature_7 rfl (lv_at hl 1 rfl) ?_
      refine lv_icmp_ge (tgt := 41) hx hb d_O_signature_8 (by decide) (fun hc => ?_) (fun hc => ?_)
      · have hi : t = m := by omega
        have e9 : (lN (sg p (fun t => fa p vr mk cc gc oc kd lf rg ol none t) t)) = (lN (sg p (fun t => fa p vr mk cc gc oc kd lf rg ol none t) m)) := by rw [hi]
        have hl : lv_has ls 6 [(0, .ref o0), (1, .int (nI m)), (2, .int (-1)), (3, .long (lN (sg p (fun t => fa p vr mk cc gc oc kd lf rg ol none t) m))), (5, .int (nI t))] := by rw [← e9]; exact hl
        refine lv_lload_n hx hb d_O_signature_41 rfl (lv_at hl 3 rfl) ?_
        have hP := hP.sub (ws' := [(o0, .inr (4, [.int (nI fl), .long (lN p), .int (nI n), .long (lN vr), .int (nI ir), .long (lN od), .int (nI cc), .ref g1, .int (nI gc), .ref g2, .ref g3, .ref g4, .int (nI oc), .ref g5, .ref g6, .ref g7, .ref g8])), (g2, .inl (cI, 24, .inl (fun c => nI (kd c)))), (g3, .inl (cI, 24, .inl (fun c => nI (lf c)))), (g4, .inl (cI, 24, .inl (fun c => nI (rg c)))), (g5, .inl (cI, 16, .inl (fun c => nI (ol c)))), (g6, .inl (cI, 32, .inl (fun c => nI (u c)))), (g7, .inl (cI, 256, .inl (fun c => nI (pa c))))]) [0, 1, 2, 3, 4, 5, 6] rfl
        have hD := hD.sub (ws' := [(o0, .inr (4, [.int (nI fl), .long (lN p), .int (nI n), .long (lN vr), .int (nI ir), .long (lN od), .int (nI cc), .ref g1, .int (nI gc), .ref g2, .ref g3, .ref g4, .int (nI oc), .ref g5, .ref g6, .ref g7, .ref g8])), (g2, .inl (cI, 24, .inl (fun c => nI (kd c)))), (g3, .inl (cI, 24, .inl (fun c => nI (lf c)))), (g4, .inl (cI, 24, .inl (fun c => nI (rg c)))), (g5, .inl (cI, 16, .inl (fun c => nI (ol c)))), (g6, .inl (cI, 32, .inl (fun c => nI (u c)))), (g7, .inl (cI, 256, .inl (fun c => nI (pa c))))]) [0, 1, 2, 3, 4, 5, 6] (by decide) rfl
        exact W.lret (v := lN (sg p (fun t => fa p vr mk cc gc oc kd lf rg ol none t) m)) hx hb hr (fun t9 ht hW => ⟨⟨lN (sg p (fun t => fa p vr mk cc gc oc kd lf rg ol none t) m), u, rfl, rfl, by rw [ht]; exact hP, va_K.moved hW.alike hK, hD⟩, hS.F ht⟩) hS.2.2 d_O_signature_42
      · exact absurd ((nI_leI (by omega) (by omega)).mpr (by omega)) hc
    | succ j ih =>
      intro t u hj H locs hP hD hS ls hl
      have hpl := pt_lt mk (rg_t p vr t) cc
      have hp8 : 2 ^ cc ≤ 2 ^ 8 := Nat.pow_le_pow_right (by decide) h1
      have hal := ci_a_lt ol (ci_t cc kd lf rg (pt_n mk (rg_t p vr t) cc) none (cc + gc)) oc
      have ho16 : 2 ^ oc ≤ 2 ^ 16 := Nat.pow_le_pow_right (by decide) h3
      have hsl := sg_lt hm (fun t => fa p vr mk cc gc oc kd lf rg ol none t) t
      refine lv_iload hx hb d_O_signature_5 (lv_at hl 4 rfl) ?_
      refine lv_iload_n hx hb d_O_signature_7 rfl (lv_at hl 1 rfl) ?_
      refine lv_icmp_ge (tgt := 41) hx hb d_O_signature_8 (by decide) (fun hc => ?_) (fun hc => ?_)
      · exact absurd ((nI_leI (by omega) (by omega)).mp hc) (by omega)
      · refine lv_aload_n hx hb d_O_signature_11 rfl (lv_at hl 0 rfl) ?_
        refine lv_lload_n hx hb d_O_signature_12 rfl (lv_at hl 3 rfl) ?_
        refine vp_callSl (va_Run.run (va_runV (As := [.long (lN (sg p (fun t => fa p vr mk cc gc oc kd lf rg ol none t) t))]) (rest := []) ⟨hx, hb, hml, hown, hts⟩ (c_O_step l dC dI cI cL o0 g1 g2 g3 g4 g5 g6 g7 g8 fl p n vr ir od cc gc oc hm _ hsl) (cwV 1 hts (gi_V kw_608 kw_610 ks_O_step kw_5 gi_O_step) rfl rfl rfl ⟨rfl, by decide, by decide, by decide⟩ ⟨Nat.le_of_ble_eq_true rfl, Nat.le_of_ble_eq_true rfl⟩) (wq_preVR hP hK hN [0] rfl (q0 := 0) (ci := 4) rfl rfl rfl) rfl rfl hl.1 rfl (lv_room (Nat.le_of_ble_eq_true rfl)) d_O_signature_13 ⟨Nat.le_of_ble_eq_true rfl, Nat.le_of_ble_eq_true rfl⟩)) (fun r3 hq3 => ?_)
        subst hq3
        refine lv_aload_n hx hb d_O_signature_16 rfl (lv_at hl 0 rfl) ?_
        refine lv_aload_n hx hb d_O_signature_17 rfl (lv_at hl 0 rfl) ?_
        refine lv_aload_n hx hb d_O_signature_18 rfl (lv_at hl 0 rfl) ?_
        refine va_get (D := (dC, dI)) (ci := 4) (v := .ref g7) (C := R_O) (T := F_O) (N := 17) hx hb hts in_O hown hK hP 0 rfl rfl 15 (by decide) (hts _ kw_543) (fun _ h9 => h9) rfl d_O_signature_19 ?_
        refine lv_iload hx hb d_O_signature_22 (lv_at hl 4 rfl) ?_
        refine va_iald (D := (dC, dI)) hx hb hK hP 6 0 rfl rfl (vp_in_nI (by omega) (by decide)) d_O_signature_24 ?_
        refine lv_topi (nm_r (show _ = nI (pa t) from congrArg (fun c => nI (pa c)) (nI_clamp (by omega))) ?_)
        refine lv_topi (nm_r (show _ = nI (pt_n mk (rg_t p vr t) cc) from by rw [hpa t (by omega)]) ?_)
        refine lv_iload_n hx hb d_O_signature_25 rfl (lv_at hl 2 rfl) ?_
        refine wq_i (wr := [(g7, .inl (cI, 256, .inl (fun c => nI (pa c))))]) (va_runV (As := [.int (nI (pt_n mk (rg_t p vr t) cc)), .int (-1)]) (rest := [.ref o0, .long (lN (px_r p (2 * sg p (fun t => fa p vr mk cc gc oc kd lf rg ol none t) t)))]) ⟨hx, hb, hml, hown, hts⟩ (c_O_answerToN l dC dI cI cL H.size o0 g1 g2 g3 g4 g5 g6 g7 g8 fl p n vr ir od cc gc oc kd lf rg ol hk u (pt_n mk (rg_t p vr t) cc) (by omega)) (cwV 2 hts (gi_V kw_689 kw_691 ks_O_answerTo kw_5 gi_O_answerTo) rfl rfl rfl ⟨rfl, by decide, by decide, by decide⟩ ⟨Nat.le_of_ble_eq_true rfl, Nat.le_of_ble_eq_true rfl⟩) (wq_preVW hP hD hK hN [0, 1, 2, 3, 4, 5] rfl rfl (q0 := 0) (ci := 4) rfl rfl rfl) rfl rfl hl.1 rfl (lv_room (Nat.le_of_ble_eq_true rfl)) d_O_signature_26 ⟨Nat.le_of_ble_eq_true rfl, Nat.le_of_ble_eq_true rfl⟩) hP hD hS hA [0, 1, 2, 3, 4, 5] [6] rfl rfl rfl (by decide) (fun r2 u2 H locs hq2 hP hD hS hz => ?_)
        have hP : va_P (dC, dI) classes [(g7, .inl (cI, 256, .inl (fun c => nI (pa c)))), (o0, .inr (4, [.int (nI fl), .long (lN p), .int (nI n), .long (lN vr), .int (nI ir), .long (lN od), .int (nI cc), .ref g1, .int (nI gc), .ref g2, .ref g3, .ref g4, .int (nI oc), .ref g5, .ref g6, .ref g7, .ref g8])), (g2, .inl (cI, 24, .inl (fun c => nI (kd c)))), (g3, .inl (cI, 24, .inl (fun c => nI (lf c)))), (g4, .inl (cI, 24, .inl (fun c => nI (rg c)))), (g5, .inl (cI, 16, .inl (fun c => nI (ol c)))), (g6, .inl (cI, 32, .inl (fun c => nI (u2 c))))] H := hP
        have hD : va_D A [(g7, .inl (cI, 256, .inl (fun c => nI (pa c)))), (o0, .inr (4, [.int (nI fl), .long (lN p), .int (nI n), .long (lN vr), .int (nI ir), .long (lN od), .int (nI cc), .ref g1, .int (nI gc), .ref g2, .ref g3, .ref g4, .int (nI oc), .ref g5, .ref g6, .ref g7, .ref g8])), (g2, .inl (cI, 24, .inl (fun c => nI (kd c)))), (g3, .inl (cI, 24, .inl (fun c => nI (lf c)))), (g4, .inl (cI, 24, .inl (fun c => nI (rg c)))), (g5, .inl (cI, 16, .inl (fun c => nI (ol c)))), (g6, .inl (cI, 32, .inl (fun c => nI (u2 c))))] := hD
        have hq2 : r2 = nI (fa p vr mk cc gc oc kd lf rg ol none t) := hq2
        subst hq2
        refine lv_i2l (v := lN (fa p vr mk cc gc oc kd lf rg ol none t)) hx hb d_O_signature_29 (nI_l (show fa p vr mk cc gc oc kd lf rg ol none t < 2 ^ 31 from by show ci_a _ _ _ < _; omega)) ?_
        refine vp_callSl (va_Run.run (va_runV (As := [.long (lN (fa p vr mk cc gc oc kd lf rg ol none t))]) (rest := [.long (lN (px_r p (2 * sg p (fun t => fa p vr mk cc gc oc kd lf rg ol none t) t)))]) ⟨hx, hb, hml, hown, hts⟩ (c_O_reduced l dC dI cI cL o0 g1 g2 g3 g4 g5 g6 g7 g8 fl p n vr ir od cc gc oc hm (fa p vr mk cc gc oc kd lf rg ol none t) (show fa p vr mk cc gc oc kd lf rg ol none t < 2 ^ 64 from by show ci_a _ _ _ < _; omega)) (cwV 1 hts (gi_V kw_621 kw_623 ks_O_reduced kw_5 gi_O_reduced) rfl rfl rfl ⟨rfl, by decide, by decide, by decide⟩ ⟨Nat.le_of_ble_eq_true rfl, Nat.le_of_ble_eq_true rfl⟩) (wq_preVR hP hK hN [1] rfl (q0 := 1) (ci := 4) rfl rfl rfl) rfl rfl hl.1 rfl (lv_room (Nat.le_of_ble_eq_true rfl)) d_O_signature_30 ⟨Nat.le_of_ble_eq_true rfl, Nat.le_of_ble_eq_true rfl⟩)) (fun r4 hq4 => ?_)
        subst hq4
        refine lv_lxor hx hb d_O_signature_33 ?_
        refine lv_topl (nm_r (show _ = lN (sg p (fun t => fa p vr mk cc gc oc kd lf rg ol none t) (t + 1)) from lN_xor _ _) ?_)
        refine lv_lstore_n (lv' := [(3, .long (lN (sg p (fun t => fa p vr mk cc gc oc kd lf rg ol none t) (t + 1)))), (0, .ref o0), (1, .int (nI m)), (2, .int (-1)), (5, .int (nI t))]) hx hb d_O_signature_34 rfl hl (by decide) rfl (fun ls hl => ?_)
        refine lv_iinc (v := nI (t + 1)) (lv' := [(5, .int (nI (t + 1))), (3, .long (lN (sg p (fun t => fa p vr mk cc gc oc kd lf rg ol none t) (t + 1)))), (0, .ref o0), (1, .int (nI m)), (2, .int (-1))]) hx hb d_O_signature_35 hl (k := 4) rfl (nI_1 t) (by decide) rfl (fun ls hl => ?_)
        refine lv_goto (tgt := 5) hx hb d_O_signature_38 (by decide) ?_
        have hl := lv_sub (l' := [(0, .ref o0), (1, .int (nI m)), (2, .int (-1)), (3, .long (lN (sg p (fun t => fa p vr mk cc gc oc kd lf rg ol none t) (t + 1)))), (5, .int (nI (t + 1)))]) hl [2, 3, 4, 1, 0] rfl
        have hP := hP.sub (ws' := [(o0, .inr (4, [.int (nI fl), .long (lN p), .int (nI n), .long (lN vr), .int (nI ir), .long (lN od), .int (nI cc), .ref g1, .int (nI gc), .ref g2, .ref g3, .ref g4, .int (nI oc), .ref g5, .ref g6, .ref g7, .ref g8])), (g2, .inl (cI, 24, .inl (fun c => nI (kd c)))), (g3, .inl (cI, 24, .inl (fun c => nI (lf c)))), (g4, .inl (cI, 24, .inl (fun c => nI (rg c)))), (g5, .inl (cI, 16, .inl (fun c => nI (ol c)))), (g6, .inl (cI, 32, .inl (fun c => nI (u2 c)))), (g7, .inl (cI, 256, .inl (fun c => nI (pa c))))]) [1, 2, 3, 4, 5, 6, 0] rfl
        have hD := hD.sub (ws' := [(o0, .inr (4, [.int (nI fl), .long (lN p), .int (nI n), .long (lN vr), .int (nI ir), .long (lN od), .int (nI cc), .ref g1, .int (nI gc), .ref g2, .ref g3, .ref g4, .int (nI oc), .ref g5, .ref g6, .ref g7, .ref g8])), (g2, .inl (cI, 24, .inl (fun c => nI (kd c)))), (g3, .inl (cI, 24, .inl (fun c => nI (lf c)))), (g4, .inl (cI, 24, .inl (fun c => nI (rg c)))), (g5, .inl (cI, 16, .inl (fun c => nI (ol c)))), (g6, .inl (cI, 32, .inl (fun c => nI (u2 c)))), (g7, .inl (cI, 256, .inl (fun c => nI (pa c))))]) [1, 2, 3, 4, 5, 6, 0] (by decide) rfl
        exact ih (t + 1) u2 (by omega) H locs hP hD hS ls hl
  refine lv_lconst (v := lN 0) hx hb d_O_signature_0 (by decide) ?_
  refine lv_lstore_n (lv' := [(3, .long (lN 0)), (0, .ref o0), (1, .int (nI m)), (2, .int (-1))]) hx hb d_O_signature_1 rfl hl (by decide) rfl (fun ls hl => ?_)
  refine lv_iconst (v := nI 0) hx hb d_O_signature_2 (by decide) ?_
  refine lv_istore (lv' := [(5, .int (nI 0)), (3, .long (lN 0)), (0, .ref o0), (1, .int (nI m)), (2, .int (-1))]) hx hb d_O_signature_3 hl (by decide) rfl (fun ls hl => ?_)
  have hl := lv_sub (l' := [(0, .ref o0), (1, .int (nI m)), (2, .int (-1)), (3, .long (lN 0)), (5, .int (nI 0))]) hl [2, 3, 4, 1, 0] rfl
  exact loop m 0 ln rfl _ _ hP hD hS ls hl
set_option maxHeartbeats 4000000 in
set_option maxRecDepth 100000 in
theorem c_O_signatureF (l : Launch) (dC : Nat → ClassId) (dI : Nat → Nat → Nat) (cI cL : ClassId) (sz : Nat) (o0 g1 g2 g3 g4 g5 g6 g7 g8 : Nat) (fl p n vr ir od cc gc oc : Nat) (hm : md p n) (kd lf rg ol : Nat → Nat) (hk : ck cc gc oc kd lf rg ol) (mk : Nat → Nat) (hmk : ∀ c, c < cc → mk c < 2 ^ 32) (ln pa : Nat → Nat) (m : Nat) (hmm : m ≤ 256) (hpa : ∀ t, t < m → pa t = pt_n mk (rg_t p vr t) cc) (ff : Nat) (hff : ff < 64) : Met l y_O_signature w_O_signature ({ frames := 2, cells := 0, slots := 0, locals := 49 } : Room) (va_Pc [.ref o0, .int (nI m), .int (nI ff)] (wq_W (dC, dI) classes [(o0, .inr (4, [.int (nI fl), .long (lN p), .int (nI n), .long (lN vr), .int (nI ir), .long (lN od), .int (nI cc), .ref g1, .int (nI gc), .ref g2, .ref g3, .ref g4, .int (nI oc), .ref g5, .ref g6, .ref g7, .ref g8])), (g2, .inl (cI, 24, .inl (fun c => nI (kd c)))), (g3, .inl (cI, 24, .inl (fun c => nI (lf c)))), (g4, .inl (cI, 24, .inl (fun c => nI (rg c)))), (g5, .inl (cI, 16, .inl (fun c => nI (ol c)))), (g6, .inl (cI, 32, .inl (fun c => nI (ln c)))), (g7, .inl (cI, 256, .inl (fun c => nI (pa c))))] [(cI, .int), (cL, .long)] sz)) (va_Ql (fun (r : Int64) (u : Nat → Nat) => r = lN (sg p (fun t => fa p vr mk cc gc oc kd lf rg ol (some ff) t) m)) (fun (u : Nat → Nat) t => wq_B (dC, dI) classes [(cI, .int), (cL, .long)] (va_A [(o0, .inr (4, [.int (nI fl), .long (lN p), .int (nI n), .long (lN vr), .int (nI ir), .long (lN od), .int (nI cc), .ref g1, .int (nI gc), .ref g2, .ref g3, .ref g4, .int (nI oc), .ref g5, .ref g6, .ref g7, .ref g8])), (g2, .inl (cI, 24, .inl (fun c => nI (kd c)))), (g3, .inl (cI, 24, .inl (fun c => nI (lf c)))), (g4, .inl (cI, 24, .inl (fun c => nI (rg c)))), (g5, .inl (cI, 16, .inl (fun c => nI (ol c)))), (g6, .inl (cI, 32, .inl (fun c => nI (ln c)))), (g7, .inl (cI, 256, .inl (fun c => nI (pa c))))] sz) [(o0, .inr (4, [.int (nI fl), .long (lN p), .int (nI n), .long (lN vr), .int (nI ir), .long (lN od), .int (nI cc), .ref g1, .int (nI gc), .ref g2, .ref g3, .ref g4, .int (nI oc), .ref g5, .ref g6, .ref g7, .ref g8])), (g2, .inl (cI, 24, .inl (fun c => nI (kd c)))), (g3, .inl (cI, 24, .inl (fun c => nI (lf c)))), (g4, .inl (cI, 24, .inl (fun c => nI (rg c)))), (g5, .inl (cI, 16, .inl (fun c => nI (ol c)))), (g6, .inl (cI, 32, .inl (fun c => nI (u c)))), (g7, .inl (cI, 256, .inl (fun c => nI (pa c))))] t) (va_A [(o0, .inr (4, [.int (nI fl), .long (lN p), .int (nI n), .long (lN vr), .int (nI ir), .long (lN od), .int (nI cc), .ref g1, .int (nI gc), .ref g2, .ref g3, .ref g4, .int (nI oc), .ref g5, .ref g6, .ref g7, .ref g8])), (g2, .inl (cI, 24, .inl (fun c => nI (kd c)))), (g3, .inl (cI, 24, .inl (fun c => nI (lf c)))), (g4, .inl (cI, 24, .inl (fun c => nI (rg c)))), (g5, .inl (cI, 16, .inl (fun c => nI (ol c)))), (g6, .inl (cI, 32, .inl (fun c => nI (ln c)))), (g7, .inl (cI, 256, .inl (fun c => nI (pa c))))] sz)) 0 0 (va_A [(o0, .inr (4, [.int (nI fl), .long (lN p), .int (nI n), .long (lN vr), .int (nI ir), .long (lN od), .int (nI cc), .ref g1, .int (nI gc), .ref g2, .ref g3, .ref g4, .int (nI oc), .ref g5, .ref g6, .ref g7, .ref g8])), (g2, .inl (cI, 24, .inl (fun c => nI (kd c)))), (g3, .inl (cI, 24, .inl (fun c => nI (lf c)))), (g4, .inl (cI, 24, .inl (fun c => nI (rg c)))), (g5, .inl (cI, 16, .inl (fun c => nI (ol c)))), (g6, .inl (cI, 32, .inl (fun c => nI (ln c)))), (g7, .inl (cI, 256, .inl (fun c => nI (pa c))))] sz) := by
  refine Met.ofW (cc := b_O_signature) (maxL := 6) (ret := (Option.some Jvm.ClassFile.FieldType.long)) (by decide) rfl ?_
  intro pg en st mm ar bw me co s₁ B hml hv
  obtain ⟨rfl, hsz, hP, hK, hD0, hN⟩ := hv
  have hx := B.exec
  have hb := B.bytes
  have hr := B.returns
  have hlocks := B.notSynchronized
  have hts0 := atoms_spec (ws := w_O_signature) B.pre
  have hts : ∀ w ∈ gw, w.before _ st = true := fun w h => hts0 w (List.mem_cons_of_mem _ h)
  have hown : st.vm.findClass R_O = some mm.cls := findClass_of_methodNamed B.named
  subst hsz
  have hD := hD0.self (sz := st.heap.size)
  generalize hAe : va_A [(o0, .inr (4, [.int (nI fl), .long (lN p), .int (nI n), .long (lN vr), .int (nI ir), .long (lN od), .int (nI cc), .ref g1, .int (nI gc), .ref g2, .ref g3, .ref g4, .int (nI oc), .ref g5, .ref g6, .ref g7, .ref g8])), (g2, .inl (cI, 24, .inl (fun c => nI (kd c)))), (g3, .inl (cI, 24, .inl (fun c => nI (lf c)))), (g4, .inl (cI, 24, .inl (fun c => nI (rg c)))), (g5, .inl (cI, 16, .inl (fun c => nI (ol c)))), (g6, .inl (cI, 32, .inl (fun c => nI (ln c)))), (g7, .inl (cI, 256, .inl (fun c => nI (pa c))))] st.heap.size = A at hD ⊢
  have hA : ∀ q : Nat, st.heap.size ≤ q → A q := fun q h => by rw [← hAe]; exact Or.inr h
  have hS : va_S A st.heap st.heap [] := va_S.rf
  have hl := lv_entry ([.ref o0, .int (nI m), .int (nI ff)]) (n := 6) (Nat.le_of_ble_eq_true rfl)
  rw [lg_entry_eq]
  generalize (lg_sl ([.ref o0, .int (nI m), .int (nI ff)]) ++ List.replicate (6 - (lg_sl ([.ref o0, .int (nI m), .int (nI ff)])).length) Slot.unset).toArray = ls at hl ⊢
  have hl : lv_has ls 6 [(0, .ref o0), (1, .int (nI m)), (2, .int (nI ff))] := hl
  have h1 := hk.1
  have h2 := hk.2.1
  have h3 := hk.2.2.1
  have loop : ∀ (j t : Nat) (u : Nat → Nat), j + t = m → ∀ (H : Heap) (locs : List Loc), va_P (dC, dI) classes [(o0, .inr (4, [.int (nI fl), .long (lN p), .int (nI n), .long (lN vr), .int (nI ir), .long (lN od), .int (nI cc), .ref g1, .int (nI gc), .ref g2, .ref g3, .ref g4, .int (nI oc), .ref g5, .ref g6, .ref g7, .ref g8])), (g2, .inl (cI, 24, .inl (fun c => nI (kd c)))), (g3, .inl (cI, 24, .inl (fun c => nI (lf c)))), (g4, .inl (cI, 24, .inl (fun c => nI (rg c)))), (g5, .inl (cI, 16, .inl (fun c => nI (ol c)))), (g6, .inl (cI, 32, .inl (fun c => nI (u c)))), (g7, .inl (cI, 256, .inl (fun c => nI (pa c))))] H → va_D A [(o0, .inr (4, [.int (nI fl), .long (lN p), .int (nI n), .long (lN vr), .int (nI ir), .long (lN od), .int (nI cc), .ref g1, .int (nI gc), .ref g2, .ref g3, .ref g4, .int (nI oc), .ref g5, .ref g6, .ref g7, .ref g8])), (g2, .inl (cI, 24, .inl (fun c => nI (kd c)))), (g3, .inl (cI, 24, .inl (fun c => nI (lf c)))), (g4, .inl (cI, 24, .inl (fun c => nI (rg c)))), (g5, .inl (cI, 16, .inl (fun c => nI (ol c)))), (g6, .inl (cI, 32, .inl (fun c => nI (u c)))), (g7, .inl (cI, 256, .inl (fun c => nI (pa c))))] → va_S A st.heap H locs → ∀ (ls : Array Slot), lv_has ls 6 [(0, .ref o0), (1, .int (nI m)), (2, .int (nI ff)), (3, .long (lN (sg p (fun t => fa p vr mk cc gc oc kd lf rg ol (some ff) t) t))), (5, .int (nI t))] → W pg l en (headSpec w_O_signature ({ frames := 2, cells := 0, slots := 0, locals := 49 } : Room)).room st mm ([.ref o0, .int (nI m), .int (nI ff)] : List Value).toArray bw me co H locs 0 0 (MQ bw (va_Ql (fun (r : Int64) (u : Nat → Nat) => r = lN (sg p (fun t => fa p vr mk cc gc oc kd lf rg ol (some ff) t) m)) (fun (u : Nat → Nat) t => wq_B (dC, dI) classes [(cI, .int), (cL, .long)] A [(o0, .inr (4, [.int (nI fl), .long (lN p), .int (nI n), .long (lN vr), .int (nI ir), .long (lN od), .int (nI cc), .ref g1, .int (nI gc), .ref g2, .ref g3, .ref g4, .int (nI oc), .ref g5, .ref g6, .ref g7, .ref g8])), (g2, .inl (cI, 24, .inl (fun c => nI (kd c)))), (g3, .inl (cI, 24, .inl (fun c => nI (lf c)))), (g4, .inl (cI, 24, .inl (fun c => nI (rg c)))), (g5, .inl (cI, 16, .inl (fun c => nI (ol c)))), (g6, .inl (cI, 32, .inl (fun c => nI (u c)))), (g7, .inl (cI, 256, .inl (fun c => nI (pa c))))] t) A) ([.ref o0, .int (nI m), .int (nI ff)] : List Value).toArray st 0 0 A) (F0 mm 5 ls []) := by
    intro j
    induction j with
    | zero =>
      intro t u hj H locs hP hD hS ls hl
      refine lv_iload hx hb d_O_signature_5 (lv_at hl 4 rfl) ?_
      refine lv_iload_n hx hb d_O_signature_7 rfl (lv_at hl 1 rfl) ?_
      refine lv_icmp_ge (tgt := 41) hx hb d_O_signature_8 (by decide) (fun hc => ?_) (fun hc => ?_)
      · have hi : t = m := by omega
        have e9 : (lN (sg p (fun t => fa p vr mk cc gc oc kd lf rg ol (some ff) t) t)) = (lN (sg p (fun t => fa p vr mk cc gc oc kd lf rg ol (some ff) t) m)) := by rw [hi]
        have hl : lv_has ls 6 [(0, .ref o0), (1, .int (nI m)), (2, .int (nI ff)), (3, .long (lN (sg p (fun t => fa p vr mk cc gc oc kd lf rg ol (some ff) t) m))), (5, .int (nI t))] := by rw [← e9]; exact hl
        refine lv_lload_n hx hb d_O_signature_41 rfl (lv_at hl 3 rfl) ?_
        have hP := hP.sub (ws' := [(o0, .inr (4, [.int (nI fl), .long (lN p), .int (nI n), .long (lN vr), .int (nI ir), .long (lN od), .int (nI cc), .ref g1, .int (nI gc), .ref g2, .ref g3, .ref g4, .int (nI oc), .ref g5, .ref g6, .ref g7, .ref g8])), (g2, .inl (cI, 24, .inl (fun c => nI (kd c)))), (g3, .inl (cI, 24, .inl (fun c => nI (lf c)))), (g4, .inl (cI, 24, .inl (fun c => nI (rg c)))), (g5, .inl (cI, 16, .inl (fun c => nI (ol c)))), (g6, .inl (cI, 32, .inl (fun c => nI (u c)))), (g7, .inl (cI, 256, .inl (fun c => nI (pa c))))]) [0, 1, 2, 3, 4, 5, 6] rfl
        have hD := hD.sub (ws' := [(o0, .inr (4, [.int (nI fl), .long (lN p), .int (nI n), .long (lN vr), .int (nI ir), .long (lN od), .int (nI cc), .ref g1, .int (nI gc), .ref g2, .ref g3, .ref g4, .int (nI oc), .ref g5, .ref g6, .ref g7, .ref g8])), (g2, .inl (cI, 24, .inl (fun c => nI (kd c)))), (g3, .inl (cI, 24, .inl (fun c => nI (lf c)))), (g4, .inl (cI, 24, .inl (fun c => nI (rg c)))), (g5, .inl (cI, 16, .inl (fun c => nI (ol c)))), (g6, .inl (cI, 32, .inl (fun c => nI (u c)))), (g7, .inl (cI, 256, .inl (fun c => nI (pa c))))]) [0, 1, 2, 3, 4, 5, 6] (by decide) rfl
        exact W.lret (v := lN (sg p (fun t => fa p vr mk cc gc oc kd lf rg ol (some ff) t) m)) hx hb hr (fun t9 ht hW => ⟨⟨lN (sg p (fun t => fa p vr mk cc gc oc kd lf rg ol (some ff) t) m), u, rfl, rfl, by rw [ht]; exact hP, va_K.moved hW.alike hK, hD⟩, hS.F ht⟩) hS.2.2 d_O_signature_42
      · exact absurd ((nI_leI (by omega) (by omega)).mpr (by omega)) hc
    | succ j ih =>
      intro t u hj H locs hP hD hS ls hl
      have hpl := pt_lt mk (rg_t p vr t) cc
      have hp8 : 2 ^ cc ≤ 2 ^ 8 := Nat.pow_le_pow_right (by decide) h1
      have hal := ci_a_lt ol (ci_t cc kd lf rg (pt_n mk (rg_t p vr t) cc) (some ff) (cc + gc)) oc
      have ho16 : 2 ^ oc ≤ 2 ^ 16 := Nat.pow_le_pow_right (by decide) h3
      have hsl := sg_lt hm (fun t => fa p vr mk cc gc oc kd lf rg ol (some ff) t) t
      refine lv_iload hx hb d_O_signature_5 (lv_at hl 4 rfl) ?_
      refine lv_iload_n hx hb d_O_signature_7 rfl (lv_at hl 1 rfl) ?_
      refine lv_icmp_ge (tgt := 41) hx hb d_O_signature_8 (by decide) (fun hc => ?_) (fun hc => ?_)
      · exact absurd ((nI_leI (by omega) (by omega)).mp hc) (by omega)
      · refine lv_aload_n hx hb d_O_signature_11 rfl (lv_at hl 0 rfl) ?_
        refine lv_lload_n hx hb d_O_signature_12 rfl (lv_at hl 3 rfl) ?_
        refine vp_callSl (va_Run.run (va_runV (As := [.long (lN (sg p (fun t => fa p vr mk cc gc oc kd lf rg ol (some ff) t) t))]) (rest := []) ⟨hx, hb, hml, hown, hts⟩ (c_O_step l dC dI cI cL o0 g1 g2 g3 g4 g5 g6 g7 g8 fl p n vr ir od cc gc oc hm _ hsl) (cwV 1 hts (gi_V kw_608 kw_610 ks_O_step kw_5 gi_O_step) rfl rfl rfl ⟨rfl, by decide, by decide, by decide⟩ ⟨Nat.le_of_ble_eq_true rfl, Nat.le_of_ble_eq_true rfl⟩) (wq_preVR hP hK hN [0] rfl (q0 := 0) (ci := 4) rfl rfl rfl) rfl rfl hl.1 rfl (lv_room (Nat.le_of_ble_eq_true rfl)) d_O_signature_13 ⟨Nat.le_of_ble_eq_true rfl, Nat.le_of_ble_eq_true rfl⟩)) (fun r3 hq3 => ?_)
        subst hq3
        refine lv_aload_n hx hb d_O_signature_16 rfl (lv_at hl 0 rfl) ?_
        refine lv_aload_n hx hb d_O_signature_17 rfl (lv_at hl 0 rfl) ?_
        refine lv_aload_n hx hb d_O_signature_18 rfl (lv_at hl 0 rfl) ?_
        refine va_get (D := (dC, dI)) (ci := 4) (v := .ref g7) (C := R_O) (T := F_O) (N := 17) hx hb hts in_O hown hK hP 0 rfl rfl 15 (by decide) (hts _ kw_543) (fun _ h9 => h9) rfl d_O_signature_19 ?_
        refine lv_iload hx hb d_O_signature_22 (lv_at hl 4 rfl) ?_
        refine va_iald (D := (dC, dI)) hx hb hK hP 6 0 rfl rfl (vp_in_nI (by omega) (by decide)) d_O_signature_24 ?_
        refine lv_topi (nm_r (show _ = nI (pa t) from congrArg (fun c => nI (pa c)) (nI_clamp (by omega))) ?_)
        refine lv_topi (nm_r (show _ = nI (pt_n mk (rg_t p vr t) cc) from by rw [hpa t (by omega)]) ?_)
        refine lv_iload_n hx hb d_O_signature_25 rfl (lv_at hl 2 rfl) ?_
        refine wq_i (wr := [(g7, .inl (cI, 256, .inl (fun c => nI (pa c))))]) (va_runV (As := [.int (nI (pt_n mk (rg_t p vr t) cc)), .int (nI ff)]) (rest := [.ref o0, .long (lN (px_r p (2 * sg p (fun t => fa p vr mk cc gc oc kd lf rg ol (some ff) t) t)))]) ⟨hx, hb, hml, hown, hts⟩ (c_O_answerToF l dC dI cI cL H.size o0 g1 g2 g3 g4 g5 g6 g7 g8 fl p n vr ir od cc gc oc kd lf rg ol hk u (pt_n mk (rg_t p vr t) cc) (by omega) ff hff) (cwV 2 hts (gi_V kw_689 kw_691 ks_O_answerTo kw_5 gi_O_answerTo) rfl rfl rfl ⟨rfl, by decide, by decide, by decide⟩ ⟨Nat.le_of_ble_eq_true rfl, Nat.le_of_ble_eq_true rfl⟩) (wq_preVW hP hD hK hN [0, 1, 2, 3, 4, 5] rfl rfl (q0 := 0) (ci := 4) rfl rfl rfl) rfl rfl hl.1 rfl (lv_room (Nat.le_of_ble_eq_true rfl)) d_O_signature_26 ⟨Nat.le_of_ble_eq_true rfl, Nat.le_of_ble_eq_true rfl⟩) hP hD hS hA [0, 1, 2, 3, 4, 5] [6] rfl rfl rfl (by decide) (fun r2 u2 H locs hq2 hP hD hS hz => ?_)
        have hP : va_P (dC, dI) classes [(g7, .inl (cI, 256, .inl (fun c => nI (pa c)))), (o0, .inr (4, [.int (nI fl), .long (lN p), .int (nI n), .long (lN vr), .int (nI ir), .long (lN od), .int (nI cc), .ref g1, .int (nI gc), .ref g2, .ref g3, .ref g4, .int (nI oc), .ref g5, .ref g6, .ref g7, .ref g8])), (g2, .inl (cI, 24, .inl (fun c => nI (kd c)))), (g3, .inl (cI, 24, .inl (fun c => nI (lf c)))), (g4, .inl (cI, 24, .inl (fun c => nI (rg c)))), (g5, .inl (cI, 16, .inl (fun c => nI (ol c)))), (g6, .inl (cI, 32, .inl (fun c => nI (u2 c))))] H := hP
        have hD : va_D A [(g7, .inl (cI, 256, .inl (fun c => nI (pa c)))), (o0, .inr (4, [.int (nI fl), .long (lN p), .int (nI n), .long (lN vr), .int (nI ir), .long (lN od), .int (nI cc), .ref g1, .int (nI gc), .ref g2, .ref g3, .ref g4, .int (nI oc), .ref g5, .ref g6, .ref g7, .ref g8])), (g2, .inl (cI, 24, .inl (fun c => nI (kd c)))), (g3, .inl (cI, 24, .inl (fun c => nI (lf c)))), (g4, .inl (cI, 24, .inl (fun c => nI (rg c)))), (g5, .inl (cI, 16, .inl (fun c => nI (ol c)))), (g6, .inl (cI, 32, .inl (fun c => nI (u2 c))))] := hD
        have hq2 : r2 = nI (fa p vr mk cc gc oc kd lf rg ol (some ff) t) := hq2
        subst hq2
        refine lv_i2l (v := lN (fa p vr mk cc gc oc kd lf rg ol (some ff) t)) hx hb d_O_signature_29 (nI_l (show fa p vr mk cc gc oc kd lf rg ol (some ff) t < 2 ^ 31 from by show ci_a _ _ _ < _; omega)) ?_
        refine vp_callSl (va_Run.run (va_runV (As := [.long (lN (fa p vr mk cc gc oc kd lf rg ol (some ff) t))]) (rest := [.long (lN (px_r p (2 * sg p (fun t => fa p vr mk cc gc oc kd lf rg ol (some ff) t) t)))]) ⟨hx, hb, hml, hown, hts⟩ (c_O_reduced l dC dI cI cL o0 g1 g2 g3 g4 g5 g6 g7 g8 fl p n vr ir od cc gc oc hm (fa p vr mk cc gc oc kd lf rg ol (some ff) t) (show fa p vr mk cc gc oc kd lf rg ol (some ff) t < 2 ^ 64 from by show ci_a _ _ _ < _; omega)) (cwV 1 hts (gi_V kw_621 kw_623 ks_O_reduced kw_5 gi_O_reduced) rfl rfl rfl ⟨rfl, by decide, by decide, by decide⟩ ⟨Nat.le_of_ble_eq_true rfl, Nat.le_of_ble_eq_true rfl⟩) (wq_preVR hP hK hN [1] rfl (q0 := 1) (ci := 4) rfl rfl rfl) rfl rfl hl.1 rfl (lv_room (Nat.le_of_ble_eq_true rfl)) d_O_signature_30 ⟨Nat.le_of_ble_eq_true rfl, Nat.le_of_ble_eq_true rfl⟩)) (fun r4 hq4 => ?_)
        subst hq4
        refine lv_lxor hx hb d_O_signature_33 ?_
        refine lv_topl (nm_r (show _ = lN (sg p (fun t => fa p vr mk cc gc oc kd lf rg ol (some ff) t) (t + 1)) from lN_xor _ _) ?_)
        refine lv_lstore_n (lv' := [(3, .long (lN (sg p (fun t => fa p vr mk cc gc oc kd lf rg ol (some ff) t) (t + 1)))), (0, .ref o0), (1, .int (nI m)), (2, .int (nI ff)), (5, .int (nI t))]) hx hb d_O_signature_34 rfl hl (by decide) rfl (fun ls hl => ?_)
        refine lv_iinc (v := nI (t + 1)) (lv' := [(5, .int (nI (t + 1))), (3, .long (lN (sg p (fun t => fa p vr mk cc gc oc kd lf rg ol (some ff) t) (t + 1)))), (0, .ref o0), (1, .int (nI m)), (2, .int (nI ff))]) hx hb d_O_signature_35 hl (k := 4) rfl (nI_1 t) (by decide) rfl (fun ls hl => ?_)
        refine lv_goto (tgt := 5) hx hb d_O_signature_38 (by decide) ?_
        have hl := lv_sub (l' := [(0, .ref o0), (1, .int (nI m)), (2, .int (nI ff)), (3, .long (lN (sg p (fun t => fa p vr mk cc gc oc kd lf rg ol (some ff) t) (t + 1)))), (5, .int (nI (t + 1)))]) hl [2, 3, 4, 1, 0] rfl
        have hP := hP.sub (ws' := [(o0, .inr (4, [.int (nI fl), .long (lN p), .int (nI n), .long (lN vr), .int (nI ir), .long (lN od), .int (nI cc), .ref g1, .int (nI gc), .ref g2, .ref g3, .ref g4, .int (nI oc), .ref g5, .ref g6, .ref g7, .ref g8])), (g2, .inl (cI, 24, .inl (fun c => nI (kd c)))), (g3, .inl (cI, 24, .inl (fun c => nI (lf c)))), (g4, .inl (cI, 24, .inl (fun c => nI (rg c)))), (g5, .inl (cI, 16, .inl (fun c => nI (ol c)))), (g6, .inl (cI, 32, .inl (fun c => nI (u2 c)))), (g7, .inl (cI, 256, .inl (fun c => nI (pa c))))]) [1, 2, 3, 4, 5, 6, 0] rfl
        have hD := hD.sub (ws' := [(o0, .inr (4, [.int (nI fl), .long (lN p), .int (nI n), .long (lN vr), .int (nI ir), .long (lN od), .int (nI cc), .ref g1, .int (nI gc), .ref g2, .ref g3, .ref g4, .int (nI oc), .ref g5, .ref g6, .ref g7, .ref g8])), (g2, .inl (cI, 24, .inl (fun c => nI (kd c)))), (g3, .inl (cI, 24, .inl (fun c => nI (lf c)))), (g4, .inl (cI, 24, .inl (fun c => nI (rg c)))), (g5, .inl (cI, 16, .inl (fun c => nI (ol c)))), (g6, .inl (cI, 32, .inl (fun c => nI (u2 c)))), (g7, .inl (cI, 256, .inl (fun c => nI (pa c))))]) [1, 2, 3, 4, 5, 6, 0] (by decide) rfl
        exact ih (t + 1) u2 (by omega) H locs hP hD hS ls hl
  refine lv_lconst (v := lN 0) hx hb d_O_signature_0 (by decide) ?_
  refine lv_lstore_n (lv' := [(3, .long (lN 0)), (0, .ref o0), (1, .int (nI m)), (2, .int (nI ff))]) hx hb d_O_signature_1 rfl hl (by decide) rfl (fun ls hl => ?_)
  refine lv_iconst (v := nI 0) hx hb d_O_signature_2 (by decide) ?_
  refine lv_istore (lv' := [(5, .int (nI 0)), (3, .long (lN 0)), (0, .ref o0), (1, .int (nI m)), (2, .int (nI ff))]) hx hb d_O_signature_3 hl (by decide) rfl (fun ls hl => ?_)
  have hl := lv_sub (l' := [(0, .ref o0), (1, .int (nI m)), (2, .int (nI ff)), (3, .long (lN 0)), (5, .int (nI 0))]) hl [2, 3, 4, 1, 0] rfl
  exact loop m 0 ln rfl _ _ hP hD hS ls hl
set_option maxHeartbeats 4000000 in
set_option maxRecDepth 100000 in
theorem c_O_firstSeen (l : Launch) (dC : Nat → ClassId) (dI : Nat → Nat → Nat) (cI cL : ClassId) (sz : Nat) (o0 g1 g2 g3 g4 g5 g6 g7 g8 : Nat) (fl p n vr ir od cc gc oc : Nat) (kd lf rg ol : Nat → Nat) (hk : ck cc gc oc kd lf rg ol) (mk : Nat → Nat) (ln pa an : Nat → Nat) (m : Nat) (hmm : m ≤ 256) (hpa : ∀ t, t < m → pa t = pt_n mk (rg_t p vr t) cc) (han : ∀ t, t < m → an t = fa p vr mk cc gc oc kd lf rg ol none t) (ff : Nat) (hff : ff < 64) : Met l y_O_firstSeen w_O_firstSeen ({ frames := 2, cells := 0, slots := 0, locals := 46 } : Room) (va_Pc [.ref o0, .int (nI m), .int (nI ff)] (wq_W (dC, dI) classes [(o0, .inr (4, [.int (nI fl), .long (lN p), .int (nI n), .long (lN vr), .int (nI ir), .long (lN od), .int (nI cc), .ref g1, .int (nI gc), .ref g2, .ref g3, .ref g4, .int (nI oc), .ref g5, .ref g6, .ref g7, .ref g8])), (g2, .inl (cI, 24, .inl (fun c => nI (kd c)))), (g3, .inl (cI, 24, .inl (fun c => nI (lf c)))), (g4, .inl (cI, 24, .inl (fun c => nI (rg c)))), (g5, .inl (cI, 16, .inl (fun c => nI (ol c)))), (g6, .inl (cI, 32, .inl (fun c => nI (ln c)))), (g7, .inl (cI, 256, .inl (fun c => nI (pa c)))), (g8, .inl (cI, 256, .inl (fun c => nI (an c))))] [(cI, .int), (cL, .long)] sz)) (va_Qi (fun (r : Int32) (u : Nat → Nat) => (∃ t, t < m ∧ fa p vr mk cc gc oc kd lf rg ol (some ff) t ≠ fa p vr mk cc gc oc kd lf rg ol none t ∧ (∀ j, j < t → fa p vr mk cc gc oc kd lf rg ol (some ff) j = fa p vr mk cc gc oc kd lf rg ol none j) ∧ r = nI t) ∨ ((∀ j, j < m → fa p vr mk cc gc oc kd lf rg ol (some ff) j = fa p vr mk cc gc oc kd lf rg ol none j) ∧ r = -1)) (fun (u : Nat → Nat) t => wq_B (dC, dI) classes [(cI, .int), (cL, .long)] (va_A [(o0, .inr (4, [.int (nI fl), .long (lN p), .int (nI n), .long (lN vr), .int (nI ir), .long (lN od), .int (nI cc), .ref g1, .int (nI gc), .ref g2, .ref g3, .ref g4, .int (nI oc), .ref g5, .ref g6, .ref g7, .ref g8])), (g2, .inl (cI, 24, .inl (fun c => nI (kd c)))), (g3, .inl (cI, 24, .inl (fun c => nI (lf c)))), (g4, .inl (cI, 24, .inl (fun c => nI (rg c)))), (g5, .inl (cI, 16, .inl (fun c => nI (ol c)))), (g6, .inl (cI, 32, .inl (fun c => nI (ln c)))), (g7, .inl (cI, 256, .inl (fun c => nI (pa c)))), (g8, .inl (cI, 256, .inl (fun c => nI (an c))))] sz) [(o0, .inr (4, [.int (nI fl), .long (lN p), .int (nI n), .long (lN vr), .int (nI ir), .long (lN od), .int (nI cc), .ref g1, .int (nI gc), .ref g2, .ref g3, .ref g4, .int (nI oc), .ref g5, .ref g6, .ref g7, .ref g8])), (g2, .inl (cI, 24, .inl (fun c => nI (kd c)))), (g3, .inl (cI, 24, .inl (fun c => nI (lf c)))), (g4, .inl (cI, 24, .inl (fun c => nI (rg c)))), (g5, .inl (cI, 16, .inl (fun c => nI (ol c)))), (g6, .inl (cI, 32, .inl (fun c => nI (u c)))), (g7, .inl (cI, 256, .inl (fun c => nI (pa c)))), (g8, .inl (cI, 256, .inl (fun c => nI (an c))))] t) (va_A [(o0, .inr (4, [.int (nI fl), .long (lN p), .int (nI n), .long (lN vr), .int (nI ir), .long (lN od), .int (nI cc), .ref g1, .int (nI gc), .ref g2, .ref g3, .ref g4, .int (nI oc), .ref g5, .ref g6, .ref g7, .ref g8])), (g2, .inl (cI, 24, .inl (fun c => nI (kd c)))), (g3, .inl (cI, 24, .inl (fun c => nI (lf c)))), (g4, .inl (cI, 24, .inl (fun c => nI (rg c)))), (g5, .inl (cI, 16, .inl (fun c => nI (ol c)))), (g6, .inl (cI, 32, .inl (fun c => nI (ln c)))), (g7, .inl (cI, 256, .inl (fun c => nI (pa c)))), (g8, .inl (cI, 256, .inl (fun c => nI (an c))))] sz)) 0 0 (va_A [(o0, .inr (4, [.int (nI fl), .long (lN p), .int (nI n), .long (lN vr), .int (nI ir), .long (lN od), .int (nI cc), .ref g1, .int (nI gc), .ref g2, .ref g3, .ref g4, .int (nI oc), .ref g5, .ref g6, .ref g7, .ref g8])), (g2, .inl (cI, 24, .inl (fun c => nI (kd c)))), (g3, .inl (cI, 24, .inl (fun c => nI (lf c)))), (g4, .inl (cI, 24, .inl (fun c => nI (rg c)))), (g5, .inl (cI, 16, .inl (fun c => nI (ol c)))), (g6, .inl (cI, 32, .inl (fun c => nI (ln c)))), (g7, .inl (cI, 256, .inl (fun c => nI (pa c)))), (g8, .inl (cI, 256, .inl (fun c => nI (an c))))] sz) := by
  refine Met.ofW (cc := b_O_firstSeen) (maxL := 4) (ret := (Option.some Jvm.ClassFile.FieldType.int)) (by decide) rfl ?_
  intro pg en st mm ar bw me co s₁ B hml hv
  obtain ⟨rfl, hsz, hP, hK, hD0, hN⟩ := hv
  have hx := B.exec
  have hb := B.bytes
  have hr := B.returns
  have hlocks := B.notSynchronized
  have hts0 := atoms_spec (ws := w_O_firstSeen) B.pre
  have hts : ∀ w ∈ gw, w.before _ st = true := fun w h => hts0 w (List.mem_cons_of_mem _ h)
  have hown : st.vm.findClass R_O = some mm.cls := findClass_of_methodNamed B.named
  subst hsz
  have hD := hD0.self (sz := st.heap.size)
  generalize hAe : va_A [(o0, .inr (4, [.int (nI fl), .long (lN p), .int (nI n), .long (lN vr), .int (nI ir), .long (lN od), .int (nI cc), .ref g1, .int (nI gc), .ref g2, .ref g3, .ref g4, .int (nI oc), .ref g5, .ref g6, .ref g7, .ref g8])), (g2, .inl (cI, 24, .inl (fun c => nI (kd c)))), (g3, .inl (cI, 24, .inl (fun c => nI (lf c)))), (g4, .inl (cI, 24, .inl (fun c => nI (rg c)))), (g5, .inl (cI, 16, .inl (fun c => nI (ol c)))), (g6, .inl (cI, 32, .inl (fun c => nI (ln c)))), (g7, .inl (cI, 256, .inl (fun c => nI (pa c)))), (g8, .inl (cI, 256, .inl (fun c => nI (an c))))] st.heap.size = A at hD ⊢
  have hA : ∀ q : Nat, st.heap.size ≤ q → A q := fun q h => by rw [← hAe]; exact Or.inr h
  have hS : va_S A st.heap st.heap [] := va_S.rf
  have hl := lv_entry ([.ref o0, .int (nI m), .int (nI ff)]) (n := 4) (Nat.le_of_ble_eq_true rfl)
  rw [lg_entry_eq]
  generalize (lg_sl ([.ref o0, .int (nI m), .int (nI ff)]) ++ List.replicate (4 - (lg_sl ([.ref o0, .int (nI m), .int (nI ff)])).length) Slot.unset).toArray = ls at hl ⊢
  have hl : lv_has ls 4 [(0, .ref o0), (1, .int (nI m)), (2, .int (nI ff))] := hl
  have h1 := hk.1
  have h2 := hk.2.1
  have h3 := hk.2.2.1
  have loop : ∀ (j t : Nat) (u : Nat → Nat), j + t = m → (∀ i, i < t → fa p vr mk cc gc oc kd lf rg ol (some ff) i = fa p vr mk cc gc oc kd lf rg ol none i) → ∀ (H : Heap) (locs : List Loc), va_P (dC, dI) classes [(o0, .inr (4, [.int (nI fl), .long (lN p), .int (nI n), .long (lN vr), .int (nI ir), .long (lN od), .int (nI cc), .ref g1, .int (nI gc), .ref g2, .ref g3, .ref g4, .int (nI oc), .ref g5, .ref g6, .ref g7, .ref g8])), (g2, .inl (cI, 24, .inl (fun c => nI (kd c)))), (g3, .inl (cI, 24, .inl (fun c => nI (lf c)))), (g4, .inl (cI, 24, .inl (fun c => nI (rg c)))), (g5, .inl (cI, 16, .inl (fun c => nI (ol c)))), (g6, .inl (cI, 32, .inl (fun c => nI (u c)))), (g7, .inl (cI, 256, .inl (fun c => nI (pa c)))), (g8, .inl (cI, 256, .inl (fun c => nI (an c))))] H → va_D A [(o0, .inr (4, [.int (nI fl), .long (lN p), .int (nI n), .long (lN vr), .int (nI ir), .long (lN od), .int (nI cc), .ref g1, .int (nI gc), .ref g2, .ref g3, .ref g4, .int (nI oc), .ref g5, .ref g6, .ref g7, .ref g8])), (g2, .inl (cI, 24, .inl (fun c => nI (kd c)))), (g3, .inl (cI, 24, .inl (fun c => nI (lf c)))), (g4, .inl (cI, 24, .inl (fun c => nI (rg c)))), (g5, .inl (cI, 16, .inl (fun c => nI (ol c)))), (g6, .inl (cI, 32, .inl (fun c => nI (u c)))), (g7, .inl (cI, 256, .inl (fun c => nI (pa c)))), (g8, .inl (cI, 256, .inl (fun c => nI (an c))))] → va_S A st.heap H locs → ∀ (ls : Array Slot), lv_has ls 4 [(0, .ref o0), (1, .int (nI m)), (2, .int (nI ff)), (3, .int (nI t))] → W pg l en (headSpec w_O_firstSeen ({ frames := 2, cells := 0, slots := 0, locals := 46 } : Room)).room st mm ([.ref o0, .int (nI m), .int (nI ff)] : List Value).toArray bw me co H locs 0 0 (MQ bw (va_Qi (fun (r : Int32) (u : Nat → Nat) => (∃ t, t < m ∧ fa p vr mk cc gc oc kd lf rg ol (some ff) t ≠ fa p vr mk cc gc oc kd lf rg ol none t ∧ (∀ j, j < t → fa p vr mk cc gc oc kd lf rg ol (some ff) j = fa p vr mk cc gc oc kd lf rg ol none j) ∧ r = nI t) ∨ ((∀ j, j < m → fa p vr mk cc gc oc kd lf rg ol (some ff) j = fa p vr mk cc gc oc kd lf rg ol none j) ∧ r = -1)) (fun (u : Nat → Nat) t => wq_B (dC, dI) classes [(cI, .int), (cL, .long)] A [(o0, .inr (4, [.int (nI fl), .long (lN p), .int (nI n), .long (lN vr), .int (nI ir), .long (lN od), .int (nI cc), .ref g1, .int (nI gc), .ref g2, .ref g3, .ref g4, .int (nI oc), .ref g5, .ref g6, .ref g7, .ref g8])), (g2, .inl (cI, 24, .inl (fun c => nI (kd c)))), (g3, .inl (cI, 24, .inl (fun c => nI (lf c)))), (g4, .inl (cI, 24, .inl (fun c => nI (rg c)))), (g5, .inl (cI, 16, .inl (fun c => nI (ol c)))), (g6, .inl (cI, 32, .inl (fun c => nI (u c)))), (g7, .inl (cI, 256, .inl (fun c => nI (pa c)))), (g8, .inl (cI, 256, .inl (fun c => nI (an c))))] t) A) ([.ref o0, .int (nI m), .int (nI ff)] : List Value).toArray st 0 0 A) (F0 mm 2 ls []) := by
    intro j
    induction j with
    | zero =>
      intro t u hj hsame H locs hP hD hS ls hl
      refine lv_iload_n hx hb d_O_firstSeen_2 rfl (lv_at hl 3 rfl) ?_
      refine lv_iload_n hx hb d_O_firstSeen_3 rfl (lv_at hl 1 rfl) ?_
      refine lv_icmp_ge (tgt := 35) hx hb d_O_firstSeen_4 (by decide) (fun hc => ?_) (fun hc => ?_)
      · refine lv_iconst (v := (-1)) hx hb d_O_firstSeen_35 (by decide) ?_
        have hP := hP.sub (ws' := [(o0, .inr (4, [.int (nI fl), .long (lN p), .int (nI n), .long (lN vr), .int (nI ir), .long (lN od), .int (nI cc), .ref g1, .int (nI gc), .ref g2, .ref g3, .ref g4, .int (nI oc), .ref g5, .ref g6, .ref g7, .ref g8])), (g2, .inl (cI, 24, .inl (fun c => nI (kd c)))), (g3, .inl (cI, 24, .inl (fun c => nI (lf c)))), (g4, .inl (cI, 24, .inl (fun c => nI (rg c)))), (g5, .inl (cI, 16, .inl (fun c => nI (ol c)))), (g6, .inl (cI, 32, .inl (fun c => nI (u c)))), (g7, .inl (cI, 256, .inl (fun c => nI (pa c)))), (g8, .inl (cI, 256, .inl (fun c => nI (an c))))]) [0, 1, 2, 3, 4, 5, 6, 7] rfl
        have hD := hD.sub (ws' := [(o0, .inr (4, [.int (nI fl), .long (lN p), .int (nI n), .long (lN vr), .int (nI ir), .long (lN od), .int (nI cc), .ref g1, .int (nI gc), .ref g2, .ref g3, .ref g4, .int (nI oc), .ref g5, .ref g6, .ref g7, .ref g8])), (g2, .inl (cI, 24, .inl (fun c => nI (kd c)))), (g3, .inl (cI, 24, .inl (fun c => nI (lf c)))), (g4, .inl (cI, 24, .inl (fun c => nI (rg c)))), (g5, .inl (cI, 16, .inl (fun c => nI (ol c)))), (g6, .inl (cI, 32, .inl (fun c => nI (u c)))), (g7, .inl (cI, 256, .inl (fun c => nI (pa c)))), (g8, .inl (cI, 256, .inl (fun c => nI (an c))))]) [0, 1, 2, 3, 4, 5, 6, 7] (by decide) rfl
        exact W.iret (v := (-1)) hx hb hr (fun t9 ht hW => ⟨⟨(-1), u, rfl, Or.inr ⟨fun i hi => hsame i (by omega), rfl⟩, by rw [ht]; exact hP, va_K.moved hW.alike hK, hD⟩, hS.F ht⟩) hS.2.2 d_O_firstSeen_36
      · exact absurd ((nI_leI (by omega) (by omega)).mpr (by omega)) hc
    | succ j ih =>
      intro t u hj hsame H locs hP hD hS ls hl
      have hpl := pt_lt mk (rg_t p vr t) cc
      have hp8 : 2 ^ cc ≤ 2 ^ 8 := Nat.pow_le_pow_right (by decide) h1
      have ho16 : 2 ^ oc ≤ 2 ^ 16 := Nat.pow_le_pow_right (by decide) h3
      have hal1 : fa p vr mk cc gc oc kd lf rg ol none t < 2 ^ oc := ci_a_lt _ _ _
      have hal2 : fa p vr mk cc gc oc kd lf rg ol (some ff) t < 2 ^ oc := ci_a_lt _ _ _
      refine lv_iload_n hx hb d_O_firstSeen_2 rfl (lv_at hl 3 rfl) ?_
      refine lv_iload_n hx hb d_O_firstSeen_3 rfl (lv_at hl 1 rfl) ?_
      refine lv_icmp_ge (tgt := 35) hx hb d_O_firstSeen_4 (by decide) (fun hc => ?_) (fun hc => ?_)
      · exact absurd ((nI_leI (by omega) (by omega)).mp hc) (by omega)
      · refine lv_aload_n hx hb d_O_firstSeen_7 rfl (lv_at hl 0 rfl) ?_
        refine lv_aload_n hx hb d_O_firstSeen_8 rfl (lv_at hl 0 rfl) ?_
        refine va_get (D := (dC, dI)) (ci := 4) (v := .ref g7) (C := R_O) (T := F_O) (N := 17) hx hb hts in_O hown hK hP 0 rfl rfl 15 (by decide) (hts _ kw_543) (fun _ h9 => h9) rfl d_O_firstSeen_9 ?_
        refine lv_iload_n hx hb d_O_firstSeen_12 rfl (lv_at hl 3 rfl) ?_
        refine va_iald (D := (dC, dI)) hx hb hK hP 6 0 rfl rfl (vp_in_nI (by omega) (by decide)) d_O_firstSeen_13 ?_
        refine lv_topi (nm_r (show _ = nI (pa t) from congrArg (fun c => nI (pa c)) (nI_clamp (by omega))) ?_)
        refine lv_topi (nm_r (show _ = nI (pt_n mk (rg_t p vr t) cc) from by rw [hpa t (by omega)]) ?_)
        refine lv_iload_n hx hb d_O_firstSeen_14 rfl (lv_at hl 2 rfl) ?_
        refine wq_i (wr := [(g7, .inl (cI, 256, .inl (fun c => nI (pa c)))), (g8, .inl (cI, 256, .inl (fun c => nI (an c))))]) (va_runV (As := [.int (nI (pt_n mk (rg_t p vr t) cc)), .int (nI ff)]) (rest := []) ⟨hx, hb, hml, hown, hts⟩ (c_O_answerToF l dC dI cI cL H.size o0 g1 g2 g3 g4 g5 g6 g7 g8 fl p n vr ir od cc gc oc kd lf rg ol hk u (pt_n mk (rg_t p vr t) cc) (by omega) ff hff) (cwV 2 hts (gi_V kw_689 kw_691 ks_O_answerTo kw_5 gi_O_answerTo) rfl rfl rfl ⟨rfl, by decide, by decide, by decide⟩ ⟨Nat.le_of_ble_eq_true rfl, Nat.le_of_ble_eq_true rfl⟩) (wq_preVW hP hD hK hN [0, 1, 2, 3, 4, 5] rfl rfl (q0 := 0) (ci := 4) rfl rfl rfl) rfl rfl hl.1 rfl (lv_room (Nat.le_of_ble_eq_true rfl)) d_O_firstSeen_15 ⟨Nat.le_of_ble_eq_true rfl, Nat.le_of_ble_eq_true rfl⟩) hP hD hS hA [0, 1, 2, 3, 4, 5] [6, 7] rfl rfl rfl (by decide) (fun r2 u2 H locs hq2 hP hD hS hz => ?_)
        have hP : va_P (dC, dI) classes [(g7, .inl (cI, 256, .inl (fun c => nI (pa c)))), (g8, .inl (cI, 256, .inl (fun c => nI (an c)))), (o0, .inr (4, [.int (nI fl), .long (lN p), .int (nI n), .long (lN vr), .int (nI ir), .long (lN od), .int (nI cc), .ref g1, .int (nI gc), .ref g2, .ref g3, .ref g4, .int (nI oc), .ref g5, .ref g6, .ref g7, .ref g8])), (g2, .inl (cI, 24, .inl (fun c => nI (kd c)))), (g3, .inl (cI, 24, .inl (fun c => nI (lf c)))), (g4, .inl (cI, 24, .inl (fun c => nI (rg c)))), (g5, .inl (cI, 16, .inl (fun c => nI (ol c)))), (g6, .inl (cI, 32, .inl (fun c => nI (u2 c))))] H := hP
        have hD : va_D A [(g7, .inl (cI, 256, .inl (fun c => nI (pa c)))), (g8, .inl (cI, 256, .inl (fun c => nI (an c)))), (o0, .inr (4, [.int (nI fl), .long (lN p), .int (nI n), .long (lN vr), .int (nI ir), .long (lN od), .int (nI cc), .ref g1, .int (nI gc), .ref g2, .ref g3, .ref g4, .int (nI oc), .ref g5, .ref g6, .ref g7, .ref g8])), (g2, .inl (cI, 24, .inl (fun c => nI (kd c)))), (g3, .inl (cI, 24, .inl (fun c => nI (lf c)))), (g4, .inl (cI, 24, .inl (fun c => nI (rg c)))), (g5, .inl (cI, 16, .inl (fun c => nI (ol c)))), (g6, .inl (cI, 32, .inl (fun c => nI (u2 c))))] := hD
        have hq2 : r2 = nI (fa p vr mk cc gc oc kd lf rg ol (some ff) t) := hq2
        subst hq2
        refine lv_aload_n hx hb d_O_firstSeen_18 rfl (lv_at hl 0 rfl) ?_
        refine va_get (D := (dC, dI)) (ci := 4) (v := .ref g8) (C := R_O) (T := F_O) (N := 17) hx hb hts in_O hown hK hP 2 rfl rfl 16 (by decide) (hts _ kw_544) (fun _ h9 => h9) rfl d_O_firstSeen_19 ?_
        refine lv_iload_n hx hb d_O_firstSeen_22 rfl (lv_at hl 3 rfl) ?_
        refine va_iald (D := (dC, dI)) hx hb hK hP 1 0 rfl rfl (vp_in_nI (by omega) (by decide)) d_O_firstSeen_23 ?_
        refine lv_topi (nm_r (show _ = nI (an t) from congrArg (fun c => nI (an c)) (nI_clamp (by omega))) ?_)
        refine lv_topi (nm_r (show _ = nI (fa p vr mk cc gc oc kd lf rg ol none t) from by rw [han t (by omega)]) ?_)
        refine lv_icmp_eq (tgt := 29) hx hb d_O_firstSeen_24 (by decide) (fun heq => ?_) (fun heq => ?_)
        · have heq : fa p vr mk cc gc oc kd lf rg ol (some ff) t = fa p vr mk cc gc oc kd lf rg ol none t := nI_injN (by omega) (by omega) heq
          refine lv_iinc (v := nI (t + 1)) (lv' := [(3, .int (nI (t + 1))), (0, .ref o0), (1, .int (nI m)), (2, .int (nI ff))]) hx hb d_O_firstSeen_29 hl (k := 3) rfl (nI_1 t) (by decide) rfl (fun ls hl => ?_)
          refine lv_goto (tgt := 2) hx hb d_O_firstSeen_32 (by decide) ?_
          have hl := lv_sub (l' := [(0, .ref o0), (1, .int (nI m)), (2, .int (nI ff)), (3, .int (nI (t + 1)))]) hl [1, 2, 3, 0] rfl
          have hP := hP.sub (ws' := [(o0, .inr (4, [.int (nI fl), .long (lN p), .int (nI n), .long (lN vr), .int (nI ir), .long (lN od), .int (nI cc), .ref g1, .int (nI gc), .ref g2, .ref g3, .ref g4, .int (nI oc), .ref g5, .ref g6, .ref g7, .ref g8])), (g2, .inl (cI, 24, .inl (fun c => nI (kd c)))), (g3, .inl (cI, 24, .inl (fun c => nI (lf c)))), (g4, .inl (cI, 24, .inl (fun c => nI (rg c)))), (g5, .inl (cI, 16, .inl (fun c => nI (ol c)))), (g6, .inl (cI, 32, .inl (fun c => nI (u2 c)))), (g7, .inl (cI, 256, .inl (fun c => nI (pa c)))), (g8, .inl (cI, 256, .inl (fun c => nI (an c))))]) [2, 3, 4, 5, 6, 7, 0, 1] rfl
          have hD := hD.sub (ws' := [(o0, .inr (4, [.int (nI fl), .long (lN p), .int (nI n), .long (lN vr), .int (nI ir), .long (lN od), .int (nI cc), .ref g1, .int (nI gc), .ref g2, .ref g3, .ref g4, .int (nI oc), .ref g5, .ref g6, .ref g7, .ref g8])), (g2, .inl (cI, 24, .inl (fun c => nI (kd c)))), (g3, .inl (cI, 24, .inl (fun c => nI (lf c)))), (g4, .inl (cI, 24, .inl (fun c => nI (rg c)))), (g5, .inl (cI, 16, .inl (fun c => nI (ol c)))), (g6, .inl (cI, 32, .inl (fun c => nI (u2 c)))), (g7, .inl (cI, 256, .inl (fun c => nI (pa c)))), (g8, .inl (cI, 256, .inl (fun c => nI (an c))))]) [2, 3, 4, 5, 6, 7, 0, 1] (by decide) rfl
          exact ih (t + 1) u2 (by omega) (fun i hi => by
            by_cases e9 : i = t
            · rw [e9]; exact heq
            · exact hsame i (by omega)) H locs hP hD hS ls hl
        · have heq : fa p vr mk cc gc oc kd lf rg ol (some ff) t ≠ fa p vr mk cc gc oc kd lf rg ol none t := fun z => heq (by rw [z])
          refine lv_iload_n hx hb d_O_firstSeen_27 rfl (lv_at hl 3 rfl) ?_
          have hP := hP.sub (ws' := [(o0, .inr (4, [.int (nI fl), .long (lN p), .int (nI n), .long (lN vr), .int (nI ir), .long (lN od), .int (nI cc), .ref g1, .int (nI gc), .ref g2, .ref g3, .ref g4, .int (nI oc), .ref g5, .ref g6, .ref g7, .ref g8])), (g2, .inl (cI, 24, .inl (fun c => nI (kd c)))), (g3, .inl (cI, 24, .inl (fun c => nI (lf c)))), (g4, .inl (cI, 24, .inl (fun c => nI (rg c)))), (g5, .inl (cI, 16, .inl (fun c => nI (ol c)))), (g6, .inl (cI, 32, .inl (fun c => nI (u2 c)))), (g7, .inl (cI, 256, .inl (fun c => nI (pa c)))), (g8, .inl (cI, 256, .inl (fun c => nI (an c))))]) [2, 3, 4, 5, 6, 7, 0, 1] rfl
          have hD := hD.sub (ws' := [(o0, .inr (4, [.int (nI fl), .long (lN p), .int (nI n), .long (lN vr), .int (nI ir), .long (lN od), .int (nI cc), .ref g1, .int (nI gc), .ref g2, .ref g3, .ref g4, .int (nI oc), .ref g5, .ref g6, .ref g7, .ref g8])), (g2, .inl (cI, 24, .inl (fun c => nI (kd c)))), (g3, .inl (cI, 24, .inl (fun c => nI (lf c)))), (g4, .inl (cI, 24, .inl (fun c => nI (rg c)))), (g5, .inl (cI, 16, .inl (fun c => nI (ol c)))), (g6, .inl (cI, 32, .inl (fun c => nI (u2 c)))), (g7, .inl (cI, 256, .inl (fun c => nI (pa c)))), (g8, .inl (cI, 256, .inl (fun c => nI (an c))))]) [2, 3, 4, 5, 6, 7, 0, 1] (by decide) rfl
          exact W.iret (v := nI t) hx hb hr (fun t9 ht hW => ⟨⟨nI t, u2, rfl, Or.inl ⟨t, by omega, heq, hsame, rfl⟩, by rw [ht]; exact hP, va_K.moved hW.alike hK, hD⟩, hS.F ht⟩) hS.2.2 d_O_firstSeen_28
  refine lv_iconst (v := nI 0) hx hb d_O_firstSeen_0 (by decide) ?_
  refine lv_istore_n (lv' := [(3, .int (nI 0)), (0, .ref o0), (1, .int (nI m)), (2, .int (nI ff))]) hx hb d_O_firstSeen_1 rfl hl (by decide) rfl (fun ls hl => ?_)
  have hl := lv_sub (l' := [(0, .ref o0), (1, .int (nI m)), (2, .int (nI ff)), (3, .int (nI 0))]) hl [1, 2, 3, 0] rfl
  exact loop m 0 ln rfl (fun i hi => absurd hi (Nat.not_lt_zero i)) _ _ hP hD hS ls hl
