/-! contracts of Modulus: irreducible, primitive, orders; laid by a program -/
set_option maxHeartbeats 4000000 in
set_option maxRecDepth 100000 in
theorem c_M_isIrreducible (l : Launch) (dC : Nat → ClassId) (dI : Nat → Nat → Nat) (cI cL : ClassId) (h0 p n : Nat) (hm : md p n) : Met l y_M_isIrreducible w_M_isIrreducible ({ frames := 5, cells := 0, slots := 0, locals := 121 } : Room) (va_Pc [.ref h0] (wq_R (dC, dI) classes [(h0, .inr (1, [.long (lN p), .int (nI n), .long (lN (px_r p 2))]))] [(cI, .int), (cL, .long)])) (vp_Si (fun r => (r = 1 ∧ px_ir p) ∨ (r = 0 ∧ ¬ px_ir p))) 0 0 (fun _ => False) := by
  refine Met.ofW (cc := b_M_isIrreducible) (maxL := 4) (ret := (Option.some Jvm.ClassFile.FieldType.boolean)) (by decide) rfl ?_
  intro pg en st mm ar bw me co s₁ B hml hv
  obtain ⟨rfl, hP, hK, hN⟩ := hv
  have hx := B.exec
  have hb := B.bytes
  have hr := B.returns
  have hlocks := B.notSynchronized
  have hts0 := atoms_spec (ws := w_M_isIrreducible) B.pre
  have hts : ∀ w ∈ gw, w.before _ st = true := fun w h => hts0 w (List.mem_cons_of_mem _ h)
  have hown : st.vm.findClass R_M = some mm.cls := findClass_of_methodNamed B.named
  have hl := lv_entry ([.ref h0]) (n := 4) (Nat.le_of_ble_eq_true rfl)
  rw [lg_entry_eq]
  generalize (lg_sl ([.ref h0]) ++ List.replicate (4 - (lg_sl ([.ref h0])).length) Slot.unset).toArray = ls at hl ⊢
  have hl : lv_has ls 4 [(0, .ref h0)] := hl
  have hn := hm.2.1
  have loop : ∀ (j k : Nat), j + k = 32 → (∀ d, 1 ≤ d → d ≤ k → eu 65 p (px_r p (2 ^ 2 ^ d) ^^^ px_r p 2) = 1) → ∀ (ls : Array Slot), lv_has ls 4 [(0, .ref h0), (1, .long (lN (px_r p (2 ^ 2 ^ k)))), (3, .int (nI (k + 1)))] → W pg l en (headSpec w_M_isIrreducible ({ frames := 5, cells := 0, slots := 0, locals := 121 } : Room)).room st mm ([.ref h0] : List Value).toArray bw me co st.heap [] 0 0 (MQ bw (vp_Si (fun r => (r = 1 ∧ px_ir p) ∨ (r = 0 ∧ ¬ px_ir p))) ([.ref h0] : List Value).toArray st 0 0 (fun _ => False)) (F0 mm 7 ls []) := by
    intro j
    induction j with
    | zero =>
      intro k hk hall ls hl
      refine lv_iconst (v := nI 2) hx hb d_M_isIrreducible_7 (by decide) ?_
      refine lv_iload_n hx hb d_M_isIrreducible_8 rfl (lv_at hl 2 rfl) ?_
      refine lv_imul hx hb d_M_isIrreducible_9 ?_
      refine lv_topi (nm_r (show _ = nI (2 * (k + 1)) from pk_mul 2 (k + 1)) ?_)
      refine lv_aload_n hx hb d_M_isIrreducible_10 rfl (lv_at hl 0 rfl) ?_
      refine va_get (D := (dC, dI)) (ci := 1) (v := .int (nI n)) (C := R_M) (T := F_M) (N := 3) hx hb hts in_M hown hK hP 0 rfl rfl 1 (by decide) (hts _ kw_31) (fun _ h9 => h9) rfl d_M_isIrreducible_11 ?_
      refine lv_icmp_gt (tgt := 50) hx hb d_M_isIrreducible_14 (by decide) (fun hc => ?_) (fun hc => ?_)
      · have hir : px_ir p := Classical.byContradiction fun hz => by
          have h2 : 2 ^ 1 ≤ 2 ^ n := Nat.pow_le_pow_right (by decide) hm.1
          have h3 := hm.2.2.1
          obtain ⟨d, h4, h5, h6⟩ := ir_no (p := p) (by omega) hm.2.2.2.2 hm.2.2.1 hm.2.2.2.1 hz
          exact h6 _ _ (fr_w hm d) (eu_ok 64 _ _ (Nat.xor_lt_two_pow (r_lt64 hm _) (r_lt64 hm _))) (hall d h4 (by omega))
        refine lv_iconst (v := nI 1) hx hb d_M_isIrreducible_50 (by decide) ?_
        exact W.zret (v := nI 1) hx hb hr (rfl) (fun t ht hW => ⟨nI 1, rfl, Or.inl ⟨rfl, hir⟩, ht⟩) (fun _ h => nomatch h) d_M_isIrreducible_51
      · exact absurd ((nI_ltI (by omega) (by omega)).mpr (by omega)) hc
    | succ j ih =>
      intro k hk hall ls hl
      refine lv_iconst (v := nI 2) hx hb d_M_isIrreducible_7 (by decide) ?_
      refine lv_iload_n hx hb d_M_isIrreducible_8 rfl (lv_at hl 2 rfl) ?_
      refine lv_imul hx hb d_M_isIrreducible_9 ?_
      refine lv_topi (nm_r (show _ = nI (2 * (k + 1)) from pk_mul 2 (k + 1)) ?_)
      refine lv_aload_n hx hb d_M_isIrreducible_10 rfl (lv_at hl 0 rfl) ?_
      refine va_get (D := (dC, dI)) (ci := 1) (v := .int (nI n)) (C := R_M) (T := F_M) (N := 3) hx hb hts in_M hown hK hP 0 rfl rfl 1 (by decide) (hts _ kw_31) (fun _ h9 => h9) rfl d_M_isIrreducible_11 ?_
      refine lv_icmp_gt (tgt := 50) hx hb d_M_isIrreducible_14 (by decide) (fun hc => ?_) (fun hc => ?_)
      · have hc := (nI_ltI (by omega) (by omega)).mp hc
        have hir : px_ir p := Classical.byContradiction fun hz => by
          have h2 : 2 ^ 1 ≤ 2 ^ n := Nat.pow_le_pow_right (by decide) hm.1
          have h3 := hm.2.2.1
          obtain ⟨d, h4, h5, h6⟩ := ir_no (p := p) (by omega) hm.2.2.2.2 hm.2.2.1 hm.2.2.2.1 hz
          exact h6 _ _ (fr_w hm d) (eu_ok 64 _ _ (Nat.xor_lt_two_pow (r_lt64 hm _) (r_lt64 hm _))) (hall d h4 (by omega))
        refine lv_iconst (v := nI 1) hx hb d_M_isIrreducible_50 (by decide) ?_
        exact W.zret (v := nI 1) hx hb hr (rfl) (fun t ht hW => ⟨nI 1, rfl, Or.inl ⟨rfl, hir⟩, ht⟩) (fun _ h => nomatch h) d_M_isIrreducible_51
      · have hc : 2 * (k + 1) ≤ n := Classical.byContradiction fun z => hc ((nI_ltI (by omega) (by omega)).mpr (by omega))
        refine lv_aload_n hx hb d_M_isIrreducible_17 rfl (lv_at hl 0 rfl) ?_
        refine lv_lload_n hx hb d_M_isIrreducible_18 rfl (lv_at hl 1 rfl) ?_
        refine lv_lload_n hx hb d_M_isIrreducible_19 rfl (lv_at hl 1 rfl) ?_
        refine vp_callSl (va_Run.run (va_runV (As := [.long (lN (px_r p (2 ^ 2 ^ k))), .long (lN (px_r p (2 ^ 2 ^ k)))]) (rest := []) ⟨hx, hb, hml, hown, hts⟩ (c_M_product l dC dI cI cL h0 p n _ _ hm (px_r_lt hm _) (px_r_lt hm _)) (cwV 2 hts (gi_V kw_139 kw_141 ks_M_product kw_2 gi_M_product) rfl rfl rfl ⟨rfl, by decide, by decide, by decide⟩ ⟨Nat.le_of_ble_eq_true rfl, Nat.le_of_ble_eq_true rfl⟩) (wq_preVR hP hK hN [0] rfl (q0 := 0) (ci := 1) rfl rfl rfl) rfl rfl hl.1 rfl (lv_room (Nat.le_of_ble_eq_true rfl)) d_M_isIrreducible_20 ⟨Nat.le_of_ble_eq_true rfl, Nat.le_of_ble_eq_true rfl⟩)) (fun r hq => ?_)
        subst hq
        refine lv_topl (nm_r (show _ = lN (px_r p (2 ^ 2 ^ (k + 1))) from congrArg lN (fr_next hm k)) ?_)
        refine lv_lstore_n (lv' := [(1, .long (lN (px_r p (2 ^ 2 ^ (k + 1))))), (0, .ref h0), (3, .int (nI (k + 1)))]) hx hb d_M_isIrreducible_23 rfl hl (by decide) rfl (fun ls hl => ?_)
        refine lv_aload_n hx hb d_M_isIrreducible_24 rfl (lv_at hl 1 rfl) ?_
        refine va_get (D := (dC, dI)) (ci := 1) (v := .long (lN p)) (C := R_M) (T := F_M) (N := 3) hx hb hts in_M hown hK hP 0 rfl rfl 0 (by decide) (hts _ kw_29) (fun _ h9 => h9) rfl d_M_isIrreducible_25 ?_
        refine lv_lload_n hx hb d_M_isIrreducible_28 rfl (lv_at hl 0 rfl) ?_
        refine lv_aload_n hx hb d_M_isIrreducible_29 rfl (lv_at hl 1 rfl) ?_
        refine va_get (D := (dC, dI)) (ci := 1) (v := .long (lN (px_r p 2))) (C := R_M) (T := F_M) (N := 3) hx hb hts in_M hown hK hP 0 rfl rfl 2 (by decide) (hts _ kw_34) (fun _ h9 => h9) rfl d_M_isIrreducible_30 ?_
        refine lv_lxor hx hb d_M_isIrreducible_33 ?_
        refine lv_topl (nm_r (show _ = lN (px_r p (2 ^ 2 ^ (k + 1)) ^^^ px_r p 2) from lN_xor _ _) ?_)
        have hw := Nat.xor_lt_two_pow (r_lt64 hm (2 ^ 2 ^ (k + 1))) (r_lt64 hm 2)
        have hG := eu_ok 64 p _ hw
        refine vp_callSl (va_Run.run (va_runS (As := [.long (lN p), .long (lN (px_r p (2 ^ 2 ^ (k + 1)) ^^^ px_r p 2))]) (rest := []) ⟨hx, hb, hml, hown, hts⟩ (c_M_commonDivisor l p _ (md_lt hm) hw) (va_cwS 2 hts (gi_S kw_147 kw_148 kw_2 gi_M_commonDivisor) rfl rfl rfl ⟨by decide, by decide, by decide⟩ ⟨Nat.le_of_ble_eq_true rfl, Nat.le_of_ble_eq_true rfl⟩) wq_preS0 rfl rfl hl.1 rfl (lv_room (Nat.le_of_ble_eq_true rfl)) d_M_isIrreducible_34 ⟨Nat.le_of_ble_eq_true rfl, Nat.le_of_ble_eq_true rfl⟩)) (fun r hq2 => ?_)
        subst hq2
        have hgl := px_dv_lt hG.1 (md_ne hm) (md_lt hm)
        refine lv_lconst (v := lN 1) hx hb d_M_isIrreducible_37 (by decide) ?_
        refine W.lcmp hx hb d_M_isIrreducible_38 ?_
        refine lv_if_eq (tgt := 44) hx hb d_M_isIrreducible_39 (by decide) (fun hg => ?_) (fun hg => ?_)
        · have hg : eu 65 p (px_r p (2 ^ 2 ^ (k + 1)) ^^^ px_r p 2) = 1 := (lN_eqI (b := 1) hgl (by decide)).mp (cmq_eq hg)
          refine lv_iinc (v := nI (k + 1 + 1)) (lv' := [(3, .int (nI (k + 1 + 1))), (1, .long (lN (px_r p (2 ^ 2 ^ (k + 1))))), (0, .ref h0)]) hx hb d_M_isIrreducible_44 hl (k := 2) rfl (nI_1 (k + 1)) (by decide) rfl (fun ls hl => ?_)
          refine lv_goto (tgt := 7) hx hb d_M_isIrreducible_47 (by decide) ?_
          have hl := lv_sub (l' := [(0, .ref h0), (1, .long (lN (px_r p (2 ^ 2 ^ (k + 1))))), (3, .int (nI (k + 1 + 1)))]) hl [2, 1, 0] rfl
          refine ih (k + 1) (by omega) (fun d h1 h2 => ?_) ls hl
          by_cases e : d = k + 1
          · rw [e]; exact hg
          · exact hall d h1 (by omega)
        · have hg : eu 65 p (px_r p (2 ^ 2 ^ (k + 1)) ^^^ px_r p 2) ≠ 1 := fun z => cmq_ne hg (by rw [z])
          have hno : ¬ px_ir p := fun z => hg (ir_yes z hm.2.2.1 (by omega) (by omega) (fr_w hm (k + 1)) hG)
          refine lv_iconst (v := nI 0) hx hb d_M_isIrreducible_42 (by decide) ?_
          exact W.zret (v := nI 0) hx hb hr (rfl) (fun t ht hW => ⟨nI 0, rfl, Or.inr ⟨rfl, hno⟩, ht⟩) (fun _ h => nomatch h) d_M_isIrreducible_43
  refine lv_aload_n hx hb d_M_isIrreducible_0 rfl (lv_at hl 0 rfl) ?_
  refine va_get (D := (dC, dI)) (ci := 1) (v := .long (lN (px_r p 2))) (C := R_M) (T := F_M) (N := 3) hx hb hts in_M hown hK hP 0 rfl rfl 2 (by decide) (hts _ kw_34) (fun _ h9 => h9) rfl d_M_isIrreducible_1 ?_
  refine lv_lstore_n (lv' := [(1, .long (lN (px_r p 2))), (0, .ref h0)]) hx hb d_M_isIrreducible_4 rfl hl (by decide) rfl (fun ls hl => ?_)
  refine lv_iconst (v := nI 1) hx hb d_M_isIrreducible_5 (by decide) ?_
  refine lv_istore_n (lv' := [(3, .int (nI 1)), (1, .long (lN (px_r p 2))), (0, .ref h0)]) hx hb d_M_isIrreducible_6 rfl hl (by decide) rfl (fun ls hl => ?_)
  have e1 : lN (px_r p 2) = lN (px_r p (2 ^ 2 ^ 0)) := rfl
  have hl := lv_sub (l' := [(0, .ref h0), (1, .long (lN (px_r p 2))), (3, .int (nI 1))]) hl [2, 1, 0] rfl
  exact loop 32 0 rfl (fun d h1 h2 => absurd h2 (by omega)) ls hl
set_option maxHeartbeats 4000000 in
set_option maxRecDepth 100000 in
theorem c_M_withoutNeedless (l : Launch) (dC : Nat → ClassId) (dI : Nat → Nat → Nat) (cI cL : ClassId) (h0 p n m q : Nat) (hm : md p n) (hm0 : 0 < m) (hm1 : m < 2 ^ 63) (hq2 : 2 ≤ q) (hq3 : q < 2 ^ 63) : Met l y_M_withoutNeedless w_M_withoutNeedless ({ frames := 3, cells := 0, slots := 0, locals := 80 } : Room) (va_Pc [.ref h0, .long (lN m), .long (lN q)] (wq_R (dC, dI) classes [(h0, .inr (1, [.long (lN p), .int (nI n), .long (lN (px_r p 2))]))] [(cI, .int), (cL, .long)])) (vp_Sl (fun r => r = lN (ow_1 (oo p) q 64 m))) 0 0 (fun _ => False) := by
  refine Met.ofW (cc := b_M_withoutNeedless) (maxL := 10) (ret := (Option.some Jvm.ClassFile.FieldType.long)) (by decide) rfl ?_
  intro pg en st mm ar bw me co s₁ B hml hv
  obtain ⟨rfl, hP, hK, hN⟩ := hv
  have hx := B.exec
  have hb := B.bytes
  have hr := B.returns
  have hlocks := B.notSynchronized
  have hts0 := atoms_spec (ws := w_M_withoutNeedless) B.pre
  have hts : ∀ w ∈ gw, w.before _ st = true := fun w h => hts0 w (List.mem_cons_of_mem _ h)
  have hown : st.vm.findClass R_M = some mm.cls := findClass_of_methodNamed B.named
  have hl := lv_entry ([.ref h0, .long (lN m), .long (lN q)]) (n := 10) (Nat.le_of_ble_eq_true rfl)
  rw [lg_entry_eq]
  generalize (lg_sl ([.ref h0, .long (lN m), .long (lN q)]) ++ List.replicate (10 - (lg_sl ([.ref h0, .long (lN m), .long (lN q)])).length) Slot.unset).toArray = ls at hl ⊢
  have hl : lv_has ls 10 [(0, .ref h0), (1, .long (lN m)), (3, .long (lN q))] := hl
  have loop : ∀ (j k d : Nat), j + k = 64 → 0 < d → d < 2 ^ 63 → ow_1 (oo p) q j d = ow_1 (oo p) q 64 m → ∀ (ls : Array Slot), lv_has ls 10 [(0, .ref h0), (1, .long (lN m)), (3, .long (lN q)), (5, .long (lN d)), (7, .int (nI k))] → W pg l en (headSpec w_M_withoutNeedless ({ frames := 3, cells := 0, slots := 0, locals := 80 } : Room)).room st mm ([.ref h0, .long (lN m), .long (lN q)] : List Value).toArray bw me co st.heap [] 0 0 (MQ bw (vp_Sl (fun r => r = lN (ow_1 (oo p) q 64 m))) ([.ref h0, .long (lN m), .long (lN q)] : List Value).toArray st 0 0 (fun _ => False)) (F0 mm 6 ls []) := by
    intro j
    induction j with
    | zero =>
      intro k d hk hd0 hd1 he ls hl
      refine lv_iload hx hb d_M_withoutNeedless_6 (lv_at hl 4 rfl) ?_
      refine lv_bipush (v := nI 64) hx hb d_M_withoutNeedless_8 (by decide) ?_
      refine lv_icmp_ge (tgt := 62) hx hb d_M_withoutNeedless_10 (by decide) (fun hc => ?_) (fun hc => ?_)
      · have hed : d = ow_1 (oo p) q 64 m := by
          rw [← he]
          rfl
        refine lv_lload hx hb d_M_withoutNeedless_62 (lv_at hl 3 rfl) ?_
        refine lv_topl (nm_r (show _ = lN (ow_1 (oo p) q 64 m) from congrArg lN hed) ?_)
        exact W.lret (v := lN (ow_1 (oo p) q 64 m)) hx hb hr (fun t ht hW => ⟨lN (ow_1 (oo p) q 64 m), rfl, rfl, ht⟩) (fun _ h => nomatch h) d_M_withoutNeedless_64
      · exact absurd ((nI_leI (by decide) (by omega)).mpr (by omega)) hc
    | succ j ih =>
      intro k d hk hd0 hd1 he ls hl
      refine lv_iload hx hb d_M_withoutNeedless_6 (lv_at hl 4 rfl) ?_
      refine lv_bipush (v := nI 64) hx hb d_M_withoutNeedless_8 (by decide) ?_
      refine lv_icmp_ge (tgt := 62) hx hb d_M_withoutNeedless_10 (by decide) (fun hc => ?_) (fun hc => ?_)
      · exact absurd ((nI_leI (by decide) (by omega)).mp hc) (by omega)
      · refine lv_lload_n hx hb d_M_withoutNeedless_13 rfl (lv_at hl 2 rfl) ?_
        refine lv_lconst (v := lN 1) hx hb d_M_withoutNeedless_14 (by decide) ?_
        refine W.lcmp hx hb d_M_withoutNeedless_15 ?_
        refine lv_if_le (tgt := 62) hx hb d_M_withoutNeedless_16 (by decide) (fun hc2 => ?_) (fun hc2 => ?_)
        · exact absurd ((pk_lLE hq3 (by decide)).mp ((lg_cmp_le _ _).mp hc2)) (by omega)
        · refine lv_lload hx hb d_M_withoutNeedless_19 (lv_at hl 3 rfl) ?_
          refine lv_lload_n hx hb d_M_withoutNeedless_21 rfl (lv_at hl 2 rfl) ?_
          refine lv_lrem hx hb d_M_withoutNeedless_22 (fun z => by have := (lN_eqI (b := 0) (show q < 2 ^ 64 by omega) (by decide)).mp z; omega) ?_
          refine lv_topl (nm_r (show _ = lN (d % q) from pk_lRem hd1 (by omega) hq3) ?_)
          have hdl : d % q < 2 ^ 64 := Nat.lt_of_le_of_lt (Nat.mod_le d q) (by omega)
          refine lv_lconst (v := lN 0) hx hb d_M_withoutNeedless_23 (by decide) ?_
          refine W.lcmp hx hb d_M_withoutNeedless_24 ?_
          refine lv_if_ne (tgt := 62) hx hb d_M_withoutNeedless_25 (by decide) (fun hz => ?_) (fun hz => ?_)
          · have hz : ¬ d % q = 0 := fun z => cmq_ne hz (by rw [z])
            have hed : d = ow_1 (oo p) q 64 m := by
              rw [← he]
              show d = (if d % q = 0 then (if oo p (d / q) = true then ow_1 (oo p) q j (d / q) else d) else d)
              rw [if_neg hz]
            refine lv_lload hx hb d_M_withoutNeedless_62 (lv_at hl 3 rfl) ?_
            refine lv_topl (nm_r (show _ = lN (ow_1 (oo p) q 64 m) from congrArg lN hed) ?_)
            exact W.lret (v := lN (ow_1 (oo p) q 64 m)) hx hb hr (fun t ht hW => ⟨lN (ow_1 (oo p) q 64 m), rfl, rfl, ht⟩) (fun _ h => nomatch h) d_M_withoutNeedless_64
          · have hz : d % q = 0 := (lN_eqI (b := 0) hdl (by decide)).mp (cmq_eq hz)
            have hdq : d / q ≤ d := Nat.div_le_self d q
            refine lv_lload hx hb d_M_withoutNeedless_28 (lv_at hl 3 rfl) ?_
            refine lv_lload_n hx hb d_M_withoutNeedless_30 rfl (lv_at hl 2 rfl) ?_
            refine lv_ldiv hx hb d_M_withoutNeedless_31 (fun z => by have := (lN_eqI (b := 0) (show q < 2 ^ 64 by omega) (by decide)).mp z; omega) ?_
            refine lv_topl (nm_r (show _ = lN (d / q) from pk_lDiv hd1 (by omega) hq3) ?_)
            refine lv_lstore (lv' := [(8, .long (lN (d / q))), (0, .ref h0), (1, .long (lN m)), (3, .long (lN q)), (5, .long (lN d)), (7, .int (nI k))]) hx hb d_M_withoutNeedless_32 hl (by decide) rfl (fun ls hl => ?_)
            refine lv_aload_n hx hb d_M_withoutNeedless_34 rfl (lv_at hl 1 rfl) ?_
            refine lv_aload_n hx hb d_M_withoutNeedless_35 rfl (lv_at hl 1 rfl) ?_
            refine va_get (D := (dC, dI)) (ci := 1) (v := .long (lN (px_r p 2))) (C := R_M) (T := F_M) (N := 3) hx hb hts in_M hown hK hP 0 rfl rfl 2 (by decide) (hts _ kw_34) (fun _ h9 => h9) rfl d_M_withoutNeedless_36 ?_
            refine lv_lload hx hb d_M_withoutNeedless_39 (lv_at hl 0 rfl) ?_
            refine vp_callSl (va_Run.run (va_runV (As := [.long (lN (px_r p 2)), .long (lN (d / q))]) (rest := []) ⟨hx, hb, hml, hown, hts⟩ (c_M_raised l dC dI cI cL h0 p n (px_r p 2) (d / q) hm (px_r_lt hm 2) (by omega)) (cwV 2 hts (gi_V kw_158 kw_160 ks_M_raised kw_2 gi_M_raised) rfl rfl rfl ⟨rfl, by decide, by decide, by decide⟩ ⟨Nat.le_of_ble_eq_true rfl, Nat.le_of_ble_eq_true rfl⟩) (wq_preVR hP hK hN [0] rfl (q0 := 0) (ci := 1) rfl rfl rfl) rfl rfl hl.1 rfl (lv_room (Nat.le_of_ble_eq_true rfl)) d_M_withoutNeedless_41 ⟨Nat.le_of_ble_eq_true rfl, Nat.le_of_ble_eq_true rfl⟩)) (fun r hq => ?_)
            subst hq
            refine lv_topl (nm_r (show _ = lN (px_r p (2 ^ (d / q))) from congrArg lN (xp_eq hm (d / q))) ?_)
            refine lv_lconst (v := lN 1) hx hb d_M_withoutNeedless_44 (by decide) ?_
            refine W.lcmp hx hb d_M_withoutNeedless_45 ?_
            refine lv_if_eq (tgt := 52) hx hb d_M_withoutNeedless_46 (by decide) (fun ho => ?_) (fun ho => ?_)
            · have ho : oo p (d / q) = true := decide_eq_true ((lN_eqI (b := 1) (r_lt64 hm _) (by decide)).mp (cmq_eq ho))
              refine lv_lload hx hb d_M_withoutNeedless_52 (lv_at hl 0 rfl) ?_
              refine lv_lstore (lv' := [(5, .long (lN (d / q))), (8, .long (lN (d / q))), (0, .ref h0), (1, .long (lN m)), (3, .long (lN q)), (7, .int (nI k))]) hx hb d_M_withoutNeedless_54 hl (by decide) rfl (fun ls hl => ?_)
              refine lv_iinc (v := nI (k + 1)) (lv' := [(7, .int (nI (k + 1))), (5, .long (lN (d / q))), (8, .long (lN (d / q))), (0, .ref h0), (1, .long (lN m)), (3, .long (lN q))]) hx hb d_M_withoutNeedless_56 hl (k := 5) rfl (nI_1 k) (by decide) rfl (fun ls hl => ?_)
              refine lv_goto (tgt := 6) hx hb d_M_withoutNeedless_59 (by decide) ?_
              have hl := lv_sub (l' := [(0, .ref h0), (1, .long (lN m)), (3, .long (lN q)), (5, .long (lN (d / q))), (7, .int (nI (k + 1)))]) hl [3, 4, 5, 1, 0] rfl
              refine ih (k + 1) (d / q) (by omega) (Nat.div_pos (Nat.le_of_dvd hd0 (Nat.dvd_of_mod_eq_zero hz)) (by omega)) (by omega) ?_ ls hl
              rw [← he]
              show _ = (if d % q = 0 then (if oo p (d / q) = true then ow_1 (oo p) q j (d / q) else d) else d)
              rw [if_pos hz, if_pos ho]
            · have ho : ¬ oo p (d / q) = true := fun z => cmq_ne ho (by rw [of_decide_eq_true z])
              have hed : d = ow_1 (oo p) q 64 m := by
                rw [← he]
                show d = (if d % q = 0 then (if oo p (d / q) = true then ow_1 (oo p) q j (d / q) else d) else d)
                rw [if_pos hz, if_neg ho]
              refine lv_goto (tgt := 62) hx hb d_M_withoutNeedless_49 (by decide) ?_
              refine lv_lload hx hb d_M_withoutNeedless_62 (lv_at hl 4 rfl) ?_
              refine lv_topl (nm_r (show _ = lN (ow_1 (oo p) q 64 m) from congrArg lN hed) ?_)
              exact W.lret (v := lN (ow_1 (oo p) q 64 m)) hx hb hr (fun t ht hW => ⟨lN (ow_1 (oo p) q 64 m), rfl, rfl, ht⟩) (fun _ h => nomatch h) d_M_withoutNeedless_64
  refine lv_lload_n hx hb d_M_withoutNeedless_0 rfl (lv_at hl 1 rfl) ?_
  refine lv_lstore (lv' := [(5, .long (lN m)), (0, .ref h0), (1, .long (lN m)), (3, .long (lN q))]) hx hb d_M_withoutNeedless_1 hl (by decide) rfl (fun ls hl => ?_)
  refine lv_iconst (v := nI 0) hx hb d_M_withoutNeedless_3 (by decide) ?_
  refine lv_istore (lv' := [(7, .int (nI 0)), (5, .long (lN m)), (0, .ref h0), (1, .long (lN m)), (3, .long (lN q))]) hx hb d_M_withoutNeedless_4 hl (by decide) rfl (fun ls hl => ?_)
  have hl := lv_sub (l' := [(0, .ref h0), (1, .long (lN m)), (3, .long (lN q)), (5, .long (lN m)), (7, .int (nI 0))]) hl [2, 3, 4, 1, 0] rfl
  exact loop 64 0 m rfl hm0 hm1 rfl ls hl
set_option maxHeartbeats 4000000 in
set_option maxRecDepth 100000 in
theorem c_M_orderWithin (l : Launch) (dC : Nat → ClassId) (dI : Nat → Nat → Nat) (cI cL : ClassId) (h0 p n m : Nat) (hm : md p n) (hm0 : 0 < m) (hm1 : m < 2 ^ 63) : Met l y_M_orderWithin w_M_orderWithin ({ frames := 4, cells := 0, slots := 0, locals := 109 } : Room) (va_Pc [.ref h0, .long (lN m)] (wq_P (dC, dI) classes [(h0, .inr (1, [.long (lN p), .int (nI n), .long (lN (px_r p 2))]))] [(cI, .int), (cL, .long)])) (vp_Sl (fun r => r = lN (ow_A (oo p) pr_T m))) 0 0 (fun _ => False) := by
  refine Met.ofW (cc := b_M_orderWithin) (maxL := 10) (ret := (Option.some Jvm.ClassFile.FieldType.long)) (by decide) rfl ?_
  intro pg en st mm ar bw me co s₁ B hml hv
  obtain ⟨rfl, ⟨hP, hK, hN⟩, hPr⟩ := hv
  have hx := B.exec
  have hb := B.bytes
  have hr := B.returns
  have hlocks := B.notSynchronized
  have hts0 := atoms_spec (ws := w_M_orderWithin) B.pre
  have hts : ∀ w ∈ gw, w.before _ st = true := fun w h => hts0 w (List.mem_cons_of_mem _ h)
  have hown : st.vm.findClass R_M = some mm.cls := findClass_of_methodNamed B.named
  have hl := lv_entry ([.ref h0, .long (lN m)]) (n := 10) (Nat.le_of_ble_eq_true rfl)
  rw [lg_entry_eq]
  generalize (lg_sl ([.ref h0, .long (lN m)]) ++ List.replicate (10 - (lg_sl ([.ref h0, .long (lN m)])).length) Slot.unset).toArray = ls at hl ⊢
  have hl : lv_has ls 10 [(0, .ref h0), (1, .long (lN m))] := hl
  obtain ⟨t, hZ, hT⟩ := hPr
  have hS0 : va_S (fun _ => False) st.heap st.heap [] := va_S.rf
  have loop : ∀ (j k d : Nat), j + k = 37 → 0 < d → d < 2 ^ 63 → ow_A (oo p) (pr_T.drop k) d = ow_A (oo p) pr_T m → ∀ (ls : Array Slot), lv_has ls 10 [(0, .ref h0), (1, .long (lN m)), (3, .long (lN d)), (5, .ref t), (6, .int (nI 37)), (7, .int (nI k))] → W pg l en (headSpec w_M_orderWithin ({ frames := 4, cells := 0, slots := 0, locals := 109 } : Room)).room st mm ([.ref h0, .long (lN m)] : List Value).toArray bw me co st.heap [] 0 0 (MQ bw (vp_Sl (fun r => r = lN (ow_A (oo p) pr_T m))) ([.ref h0, .long (lN m)] : List Value).toArray st 0 0 (fun _ => False)) (F0 mm 15 ls []) := by
    intro j
    induction j with
    | zero =>
      intro k d hk hd0 hd1 he ls hl
      refine lv_iload hx hb d_M_orderWithin_15 (lv_at hl 5 rfl) ?_
      refine lv_iload hx hb d_M_orderWithin_17 (lv_at hl 4 rfl) ?_
      refine lv_icmp_ge (tgt := 43) hx hb d_M_orderWithin_19 (by decide) (fun hc => ?_) (fun hc => ?_)
      · have hed : d = ow_A (oo p) pr_T m := by
          rw [← he, show k = 37 by omega]
          rfl
        refine lv_lload_n hx hb d_M_orderWithin_43 rfl (lv_at hl 2 rfl) ?_
        refine lv_topl (nm_r (show _ = lN (ow_A (oo p) pr_T m) from congrArg lN hed) ?_)
        exact W.lret (v := lN (ow_A (oo p) pr_T m)) hx hb hr (fun t ht hW => ⟨lN (ow_A (oo p) pr_T m), rfl, rfl, ht⟩) (fun _ h => nomatch h) d_M_orderWithin_44
      · exact absurd ((nI_leI (by decide) (by omega)).mpr (by omega)) hc
    | succ j ih =>
      intro k d hk hd0 hd1 he ls hl
      have hin := pr_get (show k < 37 by omega)
      refine lv_iload hx hb d_M_orderWithin_15 (lv_at hl 5 rfl) ?_
      refine lv_iload hx hb d_M_orderWithin_17 (lv_at hl 4 rfl) ?_
      refine lv_icmp_ge (tgt := 43) hx hb d_M_orderWithin_19 (by decide) (fun hc => ?_) (fun hc => ?_)
      · exact absurd ((nI_leI (by decide) (by omega)).mp hc) (by omega)
      · refine lv_aload hx hb d_M_orderWithin_22 (lv_at hl 3 rfl) ?_
        refine lv_iload hx hb d_M_orderWithin_24 (lv_at hl 5 rfl) ?_
        refine va_tl (v := .long (lN (pr_T.getD k 0))) hx hb hT hS0 (vp_in_nI (by omega) (by decide)) (show pr_v (nI k).toNatClampNeg = _ from by rw [nI_clamp (by omega)]; rfl) d_M_orderWithin_26 ?_
        refine lv_lstore (lv' := [(8, .long (lN (pr_T.getD k 0))), (0, .ref h0), (1, .long (lN m)), (3, .long (lN d)), (5, .ref t), (6, .int (nI 37)), (7, .int (nI k))]) hx hb d_M_orderWithin_27 hl (by decide) rfl (fun ls hl => ?_)
        refine lv_aload_n hx hb d_M_orderWithin_29 rfl (lv_at hl 1 rfl) ?_
        refine lv_lload_n hx hb d_M_orderWithin_30 rfl (lv_at hl 3 rfl) ?_
        refine lv_lload hx hb d_M_orderWithin_31 (lv_at hl 0 rfl) ?_
        refine vp_callSl (va_Run.run (va_runV (As := [.long (lN d), .long (lN (pr_T.getD k 0))]) (rest := []) ⟨hx, hb, hml, hown, hts⟩ (c_M_withoutNeedless l dC dI cI cL h0 p n d (pr_T.getD k 0) hm hd0 hd1 (pr_T_2 _ hin) (pr_T_lt _ hin)) (cwV 2 hts (gi_V kw_168 kw_170 ks_M_withoutNeedless kw_2 gi_M_withoutNeedless) rfl rfl rfl ⟨rfl, by decide, by decide, by decide⟩ ⟨Nat.le_of_ble_eq_true rfl, Nat.le_of_ble_eq_true rfl⟩) (wq_preVR hP hK hN [0] rfl (q0 := 0) (ci := 1) rfl rfl rfl) rfl rfl hl.1 rfl (lv_room (Nat.le_of_ble_eq_true rfl)) d_M_orderWithin_33 ⟨Nat.le_of_ble_eq_true rfl, Nat.le_of_ble_eq_true rfl⟩)) (fun r hq => ?_)
        subst hq
        refine lv_lstore_n (lv' := [(3, .long (lN (ow_1 (oo p) (pr_T.getD k 0) 64 d))), (8, .long (lN (pr_T.getD k 0))), (0, .ref h0), (1, .long (lN m)), (5, .ref t), (6, .int (nI 37)), (7, .int (nI k))]) hx hb d_M_orderWithin_36 rfl hl (by decide) rfl (fun ls hl => ?_)
        refine lv_iinc (v := nI (k + 1)) (lv' := [(7, .int (nI (k + 1))), (3, .long (lN (ow_1 (oo p) (pr_T.getD k 0) 64 d))), (8, .long (lN (pr_T.getD k 0))), (0, .ref h0), (1, .long (lN m)), (5, .ref t), (6, .int (nI 37))]) hx hb d_M_orderWithin_37 hl (k := 6) rfl (nI_1 k) (by decide) rfl (fun ls hl => ?_)
        refine lv_goto (tgt := 15) hx hb d_M_orderWithin_40 (by decide) ?_
        have hl := lv_sub (l' := [(0, .ref h0), (1, .long (lN m)), (3, .long (lN (ow_1 (oo p) (pr_T.getD k 0) 64 d))), (5, .ref t), (6, .int (nI 37)), (7, .int (nI (k + 1)))]) hl [3, 4, 1, 5, 6, 0] rfl
        have hps := ow_1_pos (o := oo p) (pr_T_2 _ hin) 64 d hd0
        refine ih (k + 1) _ (by omega) hps.1 (by omega) ?_ ls hl
        rw [← he]
        exact (ow_drop (show k < pr_T.length by rw [pr_T_len]; omega) d).symm
  refine lv_lload_n hx hb d_M_orderWithin_0 rfl (lv_at hl 1 rfl) ?_
  refine lv_lstore_n (lv' := [(3, .long (lN m)), (0, .ref h0), (1, .long (lN m))]) hx hb d_M_orderWithin_1 rfl hl (by decide) rfl (fun ls hl => ?_)
  refine va_gets hx hb hZ hS0 hown (hts _ kw_166) (fun _ h9 => h9) d_M_orderWithin_2 ?_
  refine lv_astore (lv' := [(5, .ref t), (3, .long (lN m)), (0, .ref h0), (1, .long (lN m))]) hx hb d_M_orderWithin_5 hl (by decide) rfl (fun ls hl => ?_)
  refine lv_aload hx hb d_M_orderWithin_7 (lv_at hl 0 rfl) ?_
  refine va_tlen (v := nI 37) hx hb hT hS0 rfl d_M_orderWithin_9 ?_
  refine lv_istore (lv' := [(6, .int (nI 37)), (5, .ref t), (3, .long (lN m)), (0, .ref h0), (1, .long (lN m))]) hx hb d_M_orderWithin_10 hl (by decide) rfl (fun ls hl => ?_)
  refine lv_iconst (v := nI 0) hx hb d_M_orderWithin_12 (by decide) ?_
  refine lv_istore (lv' := [(7, .int (nI 0)), (6, .int (nI 37)), (5, .ref t), (3, .long (lN m)), (0, .ref h0), (1, .long (lN m))]) hx hb d_M_orderWithin_13 hl (by decide) rfl (fun ls hl => ?_)
  have hl := lv_sub (l' := [(0, .ref h0), (1, .long (lN m)), (3, .long (lN m)), (5, .ref t), (6, .int (nI 37)), (7, .int (nI 0))]) hl [4, 5, 3, 2, 1, 0] rfl
  exact loop 37 0 m rfl hm0 hm1 rfl ls hl
set_option maxHeartbeats 4000000 in
set_option maxRecDepth 100000 in
theorem c_M_isPrimitive (l : Launch) (dC : Nat → ClassId) (dI : Nat → Nat → Nat) (cI cL : ClassId) (h0 p n : Nat) (hm : md p n) : Met l y_M_isPrimitive w_M_isPrimitive ({ frames := 5, cells := 0, slots := 0, locals := 138 } : Room) (va_Pc [.ref h0] (wq_P (dC, dI) classes [(h0, .inr (1, [.long (lN p), .int (nI n), .long (lN (px_r p 2))]))] [(cI, .int), (cL, .long)])) (vp_Si (fun r => (r = 1 ∧ px_ord p (2 ^ n - 1)) ∨ (r = 0 ∧ ¬ px_ord p (2 ^ n - 1)))) 0 0 (fun _ => False) := by
  refine Met.ofW (cc := b_M_isPrimitive) (maxL := 3) (ret := (Option.some Jvm.ClassFile.FieldType.boolean)) (by decide) rfl ?_
  intro pg en st mm ar bw me co s₁ B hml hv
  obtain ⟨rfl, ⟨hP, hK, hN⟩, hPr⟩ := hv
  have hx := B.exec
  have hb := B.bytes
  have hr := B.returns
  have hlocks := B.notSynchronized
  have hts0 := atoms_spec (ws := w_M_isPrimitive) B.pre
  have hts : ∀ w ∈ gw, w.before _ st = true := fun w h => hts0 w (List.mem_cons_of_mem _ h)
  have hown : st.vm.findClass R_M = some mm.cls := findClass_of_methodNamed B.named
  have hl := lv_entry ([.ref h0]) (n := 3) (Nat.le_of_ble_eq_true rfl)
  rw [lg_entry_eq]
  generalize (lg_sl ([.ref h0]) ++ List.replicate (3 - (lg_sl ([.ref h0])).length) Slot.unset).toArray = ls at hl ⊢
  have hl : lv_has ls 3 [(0, .ref h0)] := hl
  have hn := hm.2.1
  have hn2 := md_n hm
  have hn3 : 2 ^ 1 ≤ 2 ^ n := Nat.pow_le_pow_right (by decide) hm.1
  refine lv_lconst (v := lN 1) hx hb d_M_isPrimitive_0 (by decide) ?_
  refine lv_aload_n hx hb d_M_isPrimitive_1 rfl (lv_at hl 0 rfl) ?_
  refine va_get (D := (dC, dI)) (ci := 1) (v := .int (nI n)) (C := R_M) (T := F_M) (N := 3) hx hb hts in_M hown hK hP 0 rfl rfl 1 (by decide) (hts _ kw_31) (fun _ h9 => h9) rfl d_M_isPrimitive_2 ?_
  refine lv_lshl (v := lN (1 * 2 ^ n)) hx hb d_M_isPrimitive_5 (wb_shl 1 (by omega)) ?_
  refine lv_topl (nm_r (show _ = lN (2 ^ n) from by rw [Nat.one_mul]) ?_)
  refine lv_lconst (v := lN 1) hx hb d_M_isPrimitive_6 (by decide) ?_
  refine lv_lsub hx hb d_M_isPrimitive_7 ?_
  refine lv_topl (nm_r (show _ = lN (2 ^ n - 1) from lN_sub (b := 1) (by omega)) ?_)
  refine lv_lstore_n (lv' := [(1, .long (lN (2 ^ n - 1))), (0, .ref h0)]) hx hb d_M_isPrimitive_8 rfl hl (by decide) rfl (fun ls hl => ?_)
  refine lv_aload_n hx hb d_M_isPrimitive_9 rfl (lv_at hl 1 rfl) ?_
  refine lv_aload_n hx hb d_M_isPrimitive_10 rfl (lv_at hl 1 rfl) ?_
  refine va_get (D := (dC, dI)) (ci := 1) (v := .long (lN (px_r p 2))) (C := R_M) (T := F_M) (N := 3) hx hb hts in_M hown hK hP 0 rfl rfl 2 (by decide) (hts _ kw_34) (fun _ h9 => h9) rfl d_M_isPrimitive_11 ?_
  refine lv_lload_n hx hb d_M_isPrimitive_14 rfl (lv_at hl 0 rfl) ?_
  refine vp_callSl (va_Run.run (va_runV (As := [.long (lN (px_r p 2)), .long (lN (2 ^ n - 1))]) (rest := []) ⟨hx, hb, hml, hown, hts⟩ (c_M_raised l dC dI cI cL h0 p n (px_r p 2) (2 ^ n - 1) hm (px_r_lt hm 2) (by omega)) (cwV 2 hts (gi_V kw_158 kw_160 ks_M_raised kw_2 gi_M_raised) rfl rfl rfl ⟨rfl, by decide, by decide, by decide⟩ ⟨Nat.le_of_ble_eq_true rfl, Nat.le_of_ble_eq_true rfl⟩) (wq_preVR hP hK hN [0] rfl (q0 := 0) (ci := 1) rfl rfl rfl) rfl rfl hl.1 rfl (lv_room (Nat.le_of_ble_eq_true rfl)) d_M_isPrimitive_15 ⟨Nat.le_of_ble_eq_true rfl, Nat.le_of_ble_eq_true rfl⟩)) (fun r hq => ?_)
  subst hq
  refine lv_topl (nm_r (show _ = lN (px_r p (2 ^ (2 ^ n - 1))) from congrArg lN (xp_eq hm _)) ?_)
  refine lv_lconst (v := lN 1) hx hb d_M_isPrimitive_18 (by decide) ?_
  refine W.lcmp hx hb d_M_isPrimitive_19 ?_
  refine lv_if_ne (tgt := 37) hx hb d_M_isPrimitive_20 (by decide) (fun hc => ?_) (fun hc => ?_)
  · have hno : ¬ px_ord p (2 ^ n - 1) := fun z => cmq_ne hc (by rw [(xp_o hm _).mpr z.2.1])
    refine lv_iconst (v := nI 0) hx hb d_M_isPrimitive_37 (by decide) ?_
    exact W.zret (v := nI 0) hx hb hr (rfl) (fun t ht hW => ⟨nI 0, rfl, Or.inr ⟨rfl, hno⟩, ht⟩) (fun _ h => nomatch h) d_M_isPrimitive_38
  · have ho : px_o p (2 ^ n - 1) := (xp_o hm _).mp ((lN_eqI (b := 1) (r_lt64 hm _) (by decide)).mp (cmq_eq hc))
    have hord := ow_ord (oo_iff hm) pr_T_2 (show 0 < 2 ^ n - 1 by omega) (by omega) ho (fun q hq hd => pr_all hm.1 hn hq hd)
    have hle := Nat.le_of_dvd (show 0 < 2 ^ n - 1 by omega) (px_ord_dvd hord ho)
    refine lv_aload_n hx hb d_M_isPrimitive_23 rfl (lv_at hl 1 rfl) ?_
    refine lv_lload_n hx hb d_M_isPrimitive_24 rfl (lv_at hl 0 rfl) ?_
    refine vp_callSl (va_Run.run (va_runV (As := [.long (lN (2 ^ n - 1))]) (rest := []) ⟨hx, hb, hml, hown, hts⟩ (c_M_orderWithin l dC dI cI cL h0 p n (2 ^ n - 1) hm (by omega) (by omega)) (cwV 1 hts (gi_V kw_162 kw_164 ks_M_orderWithin kw_2 gi_M_orderWithin) rfl rfl rfl ⟨rfl, by decide, by decide, by decide⟩ ⟨Nat.le_of_ble_eq_true rfl, Nat.le_of_ble_eq_true rfl⟩) (wq_preVP hP hK hN hPr [0] rfl (q0 := 0) (ci := 1) rfl rfl rfl) rfl rfl hl.1 rfl (lv_room (Nat.le_of_ble_eq_true rfl)) d_M_isPrimitive_25 ⟨Nat.le_of_ble_eq_true rfl, Nat.le_of_ble_eq_true rfl⟩)) (fun r hq2 => ?_)
    subst hq2
    refine lv_lload_n hx hb d_M_isPrimitive_28 rfl (lv_at hl 0 rfl) ?_
    refine W.lcmp hx hb d_M_isPrimitive_29 ?_
    refine lv_if_ne (tgt := 37) hx hb d_M_isPrimitive_30 (by decide) (fun hc2 => ?_) (fun hc2 => ?_)
    · have hno : ¬ px_ord p (2 ^ n - 1) := fun z => cmq_ne hc2 (by rw [px_ord_uniq hord z])
      refine lv_iconst (v := nI 0) hx hb d_M_isPrimitive_37 (by decide) ?_
      exact W.zret (v := nI 0) hx hb hr (rfl) (fun t ht hW => ⟨nI 0, rfl, Or.inr ⟨rfl, hno⟩, ht⟩) (fun _ h => nomatch h) d_M_isPrimitive_38
    · have he := (lN_eqI (by omega) (by omega)).mp (cmq_eq hc2)
      rw [he] at hord
      refine lv_iconst (v := nI 1) hx hb d_M_isPrimitive_33 (by decide) ?_
      refine lv_goto (tgt := 38) hx hb d_M_isPrimitive_34 (by decide) ?_
      exact W.zret (v := nI 1) hx hb hr (rfl) (fun t ht hW => ⟨nI 1, rfl, Or.inl ⟨rfl, hord⟩, ht⟩) (fun _ h => nomatch h) d_M_isPrimitive_38
set_option maxHeartbeats 4000000 in
set_option maxRecDepth 100000 in
theorem c_M_multipleOfOrder (l : Launch) (dC : Nat → ClassId) (dI : Nat → Nat → Nat) (cI cL : ClassId) (h0 p n : Nat) (hm : md p n) (hn : n ≤ 18) : Met l y_M_multipleOfOrder w_M_multipleOfOrder ({ frames := 6, cells := 0, slots := 0, locals := 149 } : Room) (va_Pc [.ref h0] (wq_R (dC, dI) classes [(h0, .inr (1, [.long (lN p), .int (nI n), .long (lN (px_r p 2))]))] [(cI, .int), (cL, .long)])) (vp_Sl (fun r => ∃ z, r = lN z ∧ 0 < z ∧ z ≤ 32 * 2 ^ n ∧ px_o p z ∧ ∀ q, np q → q ∣ z → q ∈ pr_T)) 0 0 (fun _ => False) := by
  refine Met.ofW (cc := b_M_multipleOfOrder) (maxL := 10) (ret := (Option.some Jvm.ClassFile.FieldType.long)) (by decide) rfl ?_
  intro pg en st mm ar bw me co s₁ B hml hv
  obtain ⟨rfl, hP, hK, hN⟩ := hv
  have hx := B.exec
  have hb := B.bytes
  have hr := B.returns
  have hlocks := B.notSynchronized
  have hts0 := atoms_spec (ws := w_M_multipleOfOrder) B.pre
  have hts : ∀ w ∈ gw, w.before _ st = true := fun w h => hts0 w (List.mem_cons_of_mem _ h)
  have hown : st.vm.findClass R_M = some mm.cls := findClass_of_methodNamed B.named
  have hl := lv_entry ([.ref h0]) (n := 10) (Nat.le_of_ble_eq_true rfl)
  rw [lg_entry_eq]
  generalize (lg_sl ([.ref h0]) ++ List.replicate (10 - (lg_sl ([.ref h0])).length) Slot.unset).toArray = ls at hl ⊢
  have hl : lv_has ls 10 [(0, .ref h0)] := hl
  have loop : ∀ (j k M rr : Nat), j + k = n → mo_I p n k M rr → ∀ (ls : Array Slot), lv_has ls 10 [(0, .ref h0), (1, .long (lN (32 * M))), (3, .long (lN rr)), (5, .long (lN (px_r p (2 ^ 2 ^ k)))), (7, .int (nI (k + 1)))] → W pg l en (headSpec w_M_multipleOfOrder ({ frames := 6, cells := 0, slots := 0, locals := 149 } : Room)).room st mm ([.ref h0] : List Value).toArray bw me co st.heap [] 0 0 (MQ bw (vp_Sl (fun r => ∃ z, r = lN z ∧ 0 < z ∧ z ≤ 32 * 2 ^ n ∧ px_o p z ∧ ∀ q, np q → q ∣ z → q ∈ pr_T)) ([.ref h0] : List Value).toArray st 0 0 (fun _ => False)) (F0 mm 18 ls []) := by
    intro j
    induction j with
    | zero =>
      intro k M rr hk hI ls hl
      refine lv_iload hx hb d_M_multipleOfOrder_18 (lv_at hl 4 rfl) ?_
      refine lv_aload_n hx hb d_M_multipleOfOrder_20 rfl (lv_at hl 0 rfl) ?_
      refine va_get (D := (dC, dI)) (ci := 1) (v := .int (nI n)) (C := R_M) (T := F_M) (N := 3) hx hb hts in_M hown hK hP 0 rfl rfl 1 (by decide) (hts _ kw_31) (fun _ h9 => h9) rfl d_M_multipleOfOrder_21 ?_
      refine lv_icmp_gt (tgt := 79) hx hb d_M_multipleOfOrder_24 (by decide) (fun hc => ?_) (fun hc => ?_)
      · have hkn : k = n := by omega
        subst hkn
        have he := mo_end hm.2.2.1 hm.2.2.2.1 (by omega) hI
        refine lv_lload_n hx hb d_M_multipleOfOrder_79 rfl (lv_at hl 1 rfl) ?_
        exact W.lret (v := lN (32 * M)) hx hb hr (fun t ht hW => ⟨lN (32 * M), rfl, ⟨32 * M, rfl, he⟩, ht⟩) (fun _ h => nomatch h) d_M_multipleOfOrder_80
      · exact absurd ((nI_ltI (by omega) (by omega)).mpr (by omega)) hc
    | succ j ih =>
      intro k M rr hk hI ls hl
      have hrl := px_dv_lt hI.1 (md_ne hm) (md_lt hm)
      have hr0 := hI.2.1
      refine lv_iload hx hb d_M_multipleOfOrder_18 (lv_at hl 4 rfl) ?_
      refine lv_aload_n hx hb d_M_multipleOfOrder_20 rfl (lv_at hl 0 rfl) ?_
      refine va_get (D := (dC, dI)) (ci := 1) (v := .int (nI n)) (C := R_M) (T := F_M) (N := 3) hx hb hts in_M hown hK hP 0 rfl rfl 1 (by decide) (hts _ kw_31) (fun _ h9 => h9) rfl d_M_multipleOfOrder_21 ?_
      refine lv_icmp_gt (tgt := 79) hx hb d_M_multipleOfOrder_24 (by decide) (fun hc => ?_) (fun hc => ?_)
      · exact absurd ((nI_ltI (by omega) (by omega)).mp hc) (by omega)
      · refine lv_aload_n hx hb d_M_multipleOfOrder_27 rfl (lv_at hl 0 rfl) ?_
        refine lv_lload hx hb d_M_multipleOfOrder_28 (lv_at hl 3 rfl) ?_
        refine lv_lload hx hb d_M_multipleOfOrder_30 (lv_at hl 3 rfl) ?_
        refine vp_callSl (va_Run.run (va_runV (As := [.long (lN (px_r p (2 ^ 2 ^ k))), .long (lN (px_r p (2 ^ 2 ^ k)))]) (rest := []) ⟨hx, hb, hml, hown, hts⟩ (c_M_product l dC dI cI cL h0 p n _ _ hm (px_r_lt hm _) (px_r_lt hm _)) (cwV 2 hts (gi_V kw_139 kw_141 ks_M_product kw_2 gi_M_product) rfl rfl rfl ⟨rfl, by decide, by decide, by decide⟩ ⟨Nat.le_of_ble_eq_true rfl, Nat.le_of_ble_eq_true rfl⟩) (wq_preVR hP hK hN [0] rfl (q0 := 0) (ci := 1) rfl rfl rfl) rfl rfl hl.1 rfl (lv_room (Nat.le_of_ble_eq_true rfl)) d_M_multipleOfOrder_32 ⟨Nat.le_of_ble_eq_true rfl, Nat.le_of_ble_eq_true rfl⟩)) (fun r hq => ?_)
        subst hq
        refine lv_topl (nm_r (show _ = lN (px_r p (2 ^ 2 ^ (k + 1))) from congrArg lN (fr_next hm k)) ?_)
        refine lv_lstore (lv' := [(5, .long (lN (px_r p (2 ^ 2 ^ (k + 1))))), (0, .ref h0), (1, .long (lN (32 * M))), (3, .long (lN rr)), (7, .int (nI (k + 1)))]) hx hb d_M_multipleOfOrder_35 hl (by decide) rfl (fun ls hl => ?_)
        refine lv_lload_n hx hb d_M_multipleOfOrder_37 rfl (lv_at hl 3 rfl) ?_
        refine lv_lload hx hb d_M_multipleOfOrder_38 (lv_at hl 0 rfl) ?_
        refine lv_aload_n hx hb d_M_multipleOfOrder_40 rfl (lv_at hl 1 rfl) ?_
        refine va_get (D := (dC, dI)) (ci := 1) (v := .long (lN (px_r p 2))) (C := R_M) (T := F_M) (N := 3) hx hb hts in_M hown hK hP 0 rfl rfl 2 (by decide) (hts _ kw_34) (fun _ h9 => h9) rfl d_M_multipleOfOrder_41 ?_
        refine lv_lxor hx hb d_M_multipleOfOrder_44 ?_
        refine lv_topl (nm_r (show _ = lN (px_r p (2 ^ 2 ^ (k + 1)) ^^^ px_r p 2) from lN_xor _ _) ?_)
        have hw := Nat.xor_lt_two_pow (r_lt64 hm (2 ^ 2 ^ (k + 1))) (r_lt64 hm 2)
        have hG := eu_ok 64 rr _ hw
        refine vp_callSl (va_Run.run (va_runS (As := [.long (lN rr), .long (lN (px_r p (2 ^ 2 ^ (k + 1)) ^^^ px_r p 2))]) (rest := []) ⟨hx, hb, hml, hown, hts⟩ (c_M_commonDivisor l rr _ hrl hw) (va_cwS 2 hts (gi_S kw_147 kw_148 kw_2 gi_M_commonDivisor) rfl rfl rfl ⟨by decide, by decide, by decide⟩ ⟨Nat.le_of_ble_eq_true rfl, Nat.le_of_ble_eq_true rfl⟩) wq_preS0 rfl rfl hl.1 rfl (lv_room (Nat.le_of_ble_eq_true rfl)) d_M_multipleOfOrder_45 ⟨Nat.le_of_ble_eq_true rfl, Nat.le_of_ble_eq_true rfl⟩)) (fun r hq2 => ?_)
        subst hq2
        have hgl := px_dv_lt hG.1 hr0 hrl
        generalize eu 65 rr (px_r p (2 ^ 2 ^ (k + 1)) ^^^ px_r p 2) = gg at *
        refine lv_lstore (lv' := [(8, .long (lN gg)), (5, .long (lN (px_r p (2 ^ 2 ^ (k + 1))))), (0, .ref h0), (1, .long (lN (32 * M))), (3, .long (lN rr)), (7, .int (nI (k + 1)))]) hx hb d_M_multipleOfOrder_48 hl (by decide) rfl (fun ls hl => ?_)
        refine lv_lload hx hb d_M_multipleOfOrder_50 (lv_at hl 0 rfl) ?_
        refine lv_lconst (v := lN 1) hx hb d_M_multipleOfOrder_52 (by decide) ?_
        refine W.lcmp hx hb d_M_multipleOfOrder_53 ?_
        refine lv_if_eq (tgt := 73) hx hb d_M_multipleOfOrder_54 (by decide) (fun hg => ?_) (fun hg => ?_)
        · have hg : gg = 1 := (lN_eqI (b := 1) hgl (by decide)).mp (cmq_eq hg)
          refine lv_iinc (v := nI (k + 1 + 1)) (lv' := [(7, .int (nI (k + 1 + 1))), (8, .long (lN gg)), (5, .long (lN (px_r p (2 ^ 2 ^ (k + 1))))), (0, .ref h0), (1, .long (lN (32 * M))), (3, .long (lN rr))]) hx hb d_M_multipleOfOrder_73 hl (k := 5) rfl (nI_1 (k + 1)) (by decide) rfl (fun ls hl => ?_)
          refine lv_goto (tgt := 18) hx hb d_M_multipleOfOrder_76 (by decide) ?_
          have hl := lv_sub (l' := [(0, .ref h0), (1, .long (lN (32 * M))), (3, .long (lN rr)), (5, .long (lN (px_r p (2 ^ 2 ^ (k + 1))))), (7, .int (nI (k + 1 + 1)))]) hl [3, 4, 5, 2, 0] rfl
          exact ih (k + 1) M rr (by omega) (mo_same hm.2.2.2.2 hI (fr_w hm (k + 1)) hG hg) ls hl
        · have hg : gg ≠ 1 := fun z => cmq_ne hg (by rw [z])
          have hpos : 2 ^ 1 ≤ 2 ^ (k + 1) := Nat.pow_le_pow_right (by decide) (by omega)
          refine lv_lload_n hx hb d_M_multipleOfOrder_57 rfl (lv_at hl 3 rfl) ?_
          refine lv_lconst (v := lN 1) hx hb d_M_multipleOfOrder_58 (by decide) ?_
          refine lv_iload hx hb d_M_multipleOfOrder_59 (lv_at hl 5 rfl) ?_
          refine lv_lshl (v := lN (1 * 2 ^ (k + 1))) hx hb d_M_multipleOfOrder_61 (wb_shl 1 (by omega)) ?_
          refine lv_topl (nm_r (show _ = lN (2 ^ (k + 1)) from by rw [Nat.one_mul]) ?_)
          refine lv_lconst (v := lN 1) hx hb d_M_multipleOfOrder_62 (by decide) ?_
          refine lv_lsub hx hb d_M_multipleOfOrder_63 ?_
          refine lv_topl (nm_r (show _ = lN (2 ^ (k + 1) - 1) from lN_sub (b := 1) (by omega)) ?_)
          refine lv_lmul hx hb d_M_multipleOfOrder_64 ?_
          refine lv_topl (nm_r (show _ = lN (32 * (M * (2 ^ (k + 1) - 1))) from by rw [lN_mul, Nat.mul_assoc]) ?_)
          refine lv_lstore_n (lv' := [(1, .long (lN (32 * (M * (2 ^ (k + 1) - 1))))), (8, .long (lN gg)), (5, .long (lN (px_r p (2 ^ 2 ^ (k + 1))))), (0, .ref h0), (3, .long (lN rr)), (7, .int (nI (k + 1)))]) hx hb d_M_multipleOfOrder_65 rfl hl (by decide) rfl (fun ls hl => ?_)
          refine lv_lload_n hx hb d_M_multipleOfOrder_66 rfl (lv_at hl 4 rfl) ?_
          refine lv_lload hx hb d_M_multipleOfOrder_67 (lv_at hl 1 rfl) ?_
          refine vp_callSl (va_Run.run (va_runS (As := [.long (lN rr), .long (lN gg)]) (rest := []) ⟨hx, hb, hml, hown, hts⟩ (c_M_without l rr gg hrl hr0 hgl hG.1) (va_cwS 2 hts (gi_S kw_182 kw_183 kw_2 gi_M_without) rfl rfl rfl ⟨by decide, by decide, by decide⟩ ⟨Nat.le_of_ble_eq_true rfl, Nat.le_of_ble_eq_true rfl⟩) wq_preS0 rfl rfl hl.1 rfl (lv_room (Nat.le_of_ble_eq_true rfl)) d_M_multipleOfOrder_69 ⟨Nat.le_of_ble_eq_true rfl, Nat.le_of_ble_eq_true rfl⟩)) (fun r hq3 => ?_)
          subst hq3
          refine lv_lstore_n (lv' := [(3, .long (lN (wo 64 rr gg))), (1, .long (lN (32 * (M * (2 ^ (k + 1) - 1))))), (8, .long (lN gg)), (5, .long (lN (px_r p (2 ^ 2 ^ (k + 1))))), (0, .ref h0), (7, .int (nI (k + 1)))]) hx hb d_M_multipleOfOrder_72 rfl hl (by decide) rfl (fun ls hl => ?_)
          refine lv_iinc (v := nI (k + 1 + 1)) (lv' := [(7, .int (nI (k + 1 + 1))), (3, .long (lN (wo 64 rr gg))), (1, .long (lN (32 * (M * (2 ^ (k + 1) - 1))))), (8, .long (lN gg)), (5, .long (lN (px_r p (2 ^ 2 ^ (k + 1))))), (0, .ref h0)]) hx hb d_M_multipleOfOrder_73 hl (k := 5) rfl (nI_1 (k + 1)) (by decide) rfl (fun ls hl => ?_)
          refine lv_goto (tgt := 18) hx hb d_M_multipleOfOrder_76 (by decide) ?_
          have hl := lv_sub (l' := [(0, .ref h0), (1, .long (lN (32 * (M * (2 ^ (k + 1) - 1))))), (3, .long (lN (wo 64 rr gg))), (5, .long (lN (px_r p (2 ^ 2 ^ (k + 1))))), (7, .int (nI (k + 1 + 1)))]) hl [5, 2, 1, 4, 0] rfl
          exact ih (k + 1) (M * (2 ^ (k + 1) - 1)) (wo 64 rr gg) (by omega) (mo_turn hm.2.2.2.2 (by omega) hI (fr_w hm (k + 1)) hG hg (wo_S_of hr0 hrl hG.1 hg)) ls hl
  refine lv_ldc2 (v := lN (32 * 1)) hx hb hown (hts _ kw_181) d_M_multipleOfOrder_0 ?_
  refine lv_lstore_n (lv' := [(1, .long (lN (32 * 1))), (0, .ref h0)]) hx hb d_M_multipleOfOrder_3 rfl hl (by decide) rfl (fun ls hl => ?_)
  refine lv_aload_n hx hb d_M_multipleOfOrder_4 rfl (lv_at hl 1 rfl) ?_
  refine va_get (D := (dC, dI)) (ci := 1) (v := .long (lN p)) (C := R_M) (T := F_M) (N := 3) hx hb hts in_M hown hK hP 0 rfl rfl 0 (by decide) (hts _ kw_29) (fun _ h9 => h9) rfl d_M_multipleOfOrder_5 ?_
  refine lv_lstore_n (lv' := [(3, .long (lN p)), (1, .long (lN (32 * 1))), (0, .ref h0)]) hx hb d_M_multipleOfOrder_8 rfl hl (by decide) rfl (fun ls hl => ?_)
  refine lv_aload_n hx hb d_M_multipleOfOrder_9 rfl (lv_at hl 2 rfl) ?_
  refine va_get (D := (dC, dI)) (ci := 1) (v := .long (lN (px_r p 2))) (C := R_M) (T := F_M) (N := 3) hx hb hts in_M hown hK hP 0 rfl rfl 2 (by decide) (hts _ kw_34) (fun _ h9 => h9) rfl d_M_multipleOfOrder_10 ?_
  refine lv_lstore (lv' := [(5, .long (lN (px_r p 2))), (3, .long (lN p)), (1, .long (lN (32 * 1))), (0, .ref h0)]) hx hb d_M_multipleOfOrder_13 hl (by decide) rfl (fun ls hl => ?_)
  refine lv_iconst (v := nI 1) hx hb d_M_multipleOfOrder_15 (by decide) ?_
  refine lv_istore (lv' := [(7, .int (nI 1)), (5, .long (lN (px_r p 2))), (3, .long (lN p)), (1, .long (lN (32 * 1))), (0, .ref h0)]) hx hb d_M_multipleOfOrder_16 hl (by decide) rfl (fun ls hl => ?_)
  have hl := lv_sub (l' := [(0, .ref h0), (1, .long (lN (32 * 1))), (3, .long (lN p)), (5, .long (lN (px_r p 2))), (7, .int (nI 1))]) hl [4, 3, 2, 1, 0] rfl
  exact loop n 0 1 p rfl (mo_start hm.2.2.1 hm.2.2.2.1) ls hl
