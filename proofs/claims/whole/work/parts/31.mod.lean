/-! contracts of Modulus: residues, products, powers, common divisors; laid by a program -/
set_option maxHeartbeats 4000000 in
set_option maxRecDepth 100000 in
theorem c_M_reduced (l : Launch) (dC : Nat → ClassId) (dI : Nat → Nat → Nat) (cI cL : ClassId) (h0 p n a : Nat) (hm : md p n) (ha : a < 2 ^ 64) : Met l y_M_reduced w_M_reduced ({ frames := 4, cells := 0, slots := 0, locals := 91 } : Room) (va_Pc [.ref h0, .long (lN a)] (wq_R (dC, dI) classes [(h0, .inr (1, [.long (lN p), .int (nI n), .long (lN (px_r p 2))]))] [(cI, .int), (cL, .long)])) (vp_Sl (fun r => r = lN (px_r p a))) 0 0 (fun _ => False) := by
  refine Met.ofW (cc := b_M_reduced) (maxL := 3) (ret := (Option.some Jvm.ClassFile.FieldType.long)) (by decide) rfl ?_
  intro pg en st mm ar bw me co s₁ B hml hv
  obtain ⟨rfl, hP, hK, hN⟩ := hv
  have hx := B.exec
  have hb := B.bytes
  have hr := B.returns
  have hlocks := B.notSynchronized
  have hts0 := atoms_spec (ws := w_M_reduced) B.pre
  have hts : ∀ w ∈ gw, w.before _ st = true := fun w h => hts0 w (List.mem_cons_of_mem _ h)
  have hown : st.vm.findClass R_M = some mm.cls := findClass_of_methodNamed B.named
  have hl := lv_entry ([.ref h0, .long (lN a)]) (n := 3) (Nat.le_of_ble_eq_true rfl)
  rw [lg_entry_eq]
  generalize (lg_sl ([.ref h0, .long (lN a)]) ++ List.replicate (3 - (lg_sl ([.ref h0, .long (lN a)])).length) Slot.unset).toArray = ls at hl ⊢
  have hl : lv_has ls 3 [(0, .ref h0), (1, .long (lN a))] := hl
  refine lv_lload_n hx hb d_M_reduced_0 rfl (lv_at hl 1 rfl) ?_
  refine lv_aload_n hx hb d_M_reduced_1 rfl (lv_at hl 0 rfl) ?_
  refine va_get (D := (dC, dI)) (ci := 1) (v := .long (lN p)) (C := R_M) (T := F_M) (N := 3) hx hb hts in_M hown hK hP 0 rfl rfl 0 (by decide) (hts _ kw_29) (fun _ h9 => h9) rfl d_M_reduced_2 ?_
  refine vp_callSl (va_Run.run (va_runS (As := [.long (lN a), .long (lN p)]) (rest := []) ⟨hx, hb, hml, hown, hts⟩ (c_M_remainder l a p ha (md_ne hm) (md_lt hm)) (va_cwS 2 hts (gi_S kw_118 kw_119 kw_2 gi_M_remainder) rfl rfl rfl ⟨by decide, by decide, by decide⟩ ⟨Nat.le_of_ble_eq_true rfl, Nat.le_of_ble_eq_true rfl⟩) wq_preS0 rfl rfl hl.1 rfl (lv_room (Nat.le_of_ble_eq_true rfl)) d_M_reduced_5 ⟨Nat.le_of_ble_eq_true rfl, Nat.le_of_ble_eq_true rfl⟩)) (fun r hq => ?_)
  subst hq
  exact W.lret (v := lN (px_r p a)) hx hb hr (fun t ht hW => ⟨lN (px_r p a), rfl, rfl, ht⟩) (fun _ h => nomatch h) d_M_reduced_8
set_option maxHeartbeats 4000000 in
set_option maxRecDepth 100000 in
theorem c_M_stepped (l : Launch) (dC : Nat → ClassId) (dI : Nat → Nat → Nat) (cI cL : ClassId) (h0 p n a : Nat) (hm : md p n) (ha : a < 2 ^ n) : Met l y_M_stepped w_M_stepped ({ frames := 0, cells := 0, slots := 0, locals := 0 } : Room) (va_Pc [.ref h0, .long (lN a)] (wq_R (dC, dI) classes [(h0, .inr (1, [.long (lN p), .int (nI n), .long (lN (px_r p 2))]))] [(cI, .int), (cL, .long)])) (vp_Sl (fun r => r = lN (px_r p (2 * a)))) 0 0 (fun _ => False) := by
  refine Met.ofW (cc := b_M_stepped) (maxL := 5) (ret := (Option.some Jvm.ClassFile.FieldType.long)) (by decide) rfl ?_
  intro pg en st mm ar bw me co s₁ B hml hv
  obtain ⟨rfl, hP, hK, hN⟩ := hv
  have hx := B.exec
  have hb := B.bytes
  have hr := B.returns
  have hlocks := B.notSynchronized
  have hts0 := atoms_spec (ws := w_M_stepped) B.pre
  have hts : ∀ w ∈ gw, w.before _ st = true := fun w h => hts0 w (List.mem_cons_of_mem _ h)
  have hown : st.vm.findClass R_M = some mm.cls := findClass_of_methodNamed B.named
  have hl := lv_entry ([.ref h0, .long (lN a)]) (n := 5) (Nat.le_of_ble_eq_true rfl)
  rw [lg_entry_eq]
  generalize (lg_sl ([.ref h0, .long (lN a)]) ++ List.replicate (5 - (lg_sl ([.ref h0, .long (lN a)])).length) Slot.unset).toArray = ls at hl ⊢
  have hl : lv_has ls 5 [(0, .ref h0), (1, .long (lN a))] := hl
  have hn := hm.2.1
  have ha2 := res_lt hm ha
  have he := st_eq hm ha
  refine lv_lload_n hx hb d_M_stepped_0 rfl (lv_at hl 1 rfl) ?_
  refine lv_iconst (v := nI 1) hx hb d_M_stepped_1 (by decide) ?_
  refine lv_lshl (v := lN (2 * a)) hx hb d_M_stepped_2 (lN_shl1) ?_
  refine lv_lstore_n (lv' := [(3, .long (lN (2 * a))), (0, .ref h0), (1, .long (lN a))]) hx hb d_M_stepped_3 rfl hl (by decide) rfl (fun ls hl => ?_)
  refine lv_lload_n hx hb d_M_stepped_4 rfl (lv_at hl 0 rfl) ?_
  refine lv_aload_n hx hb d_M_stepped_5 rfl (lv_at hl 1 rfl) ?_
  refine va_get (D := (dC, dI)) (ci := 1) (v := .int (nI n)) (C := R_M) (T := F_M) (N := 3) hx hb hts in_M hown hK hP 0 rfl rfl 1 (by decide) (hts _ kw_31) (fun _ h9 => h9) rfl d_M_stepped_6 ?_
  refine lv_lushr (v := lN ((2 * a) / 2 ^ n)) hx hb d_M_stepped_9 (wb_shr (show 2 * a < 2 ^ 64 by omega) (by omega)) ?_
  refine lv_lconst (v := lN 1) hx hb d_M_stepped_10 (by decide) ?_
  refine lv_land hx hb d_M_stepped_11 ?_
  refine lv_topl (nm_r (show _ = lN ((2 * a) / 2 ^ n % 2) from g1_and (show (2 * a) / 2 ^ n < 2 ^ 64 from Nat.lt_of_le_of_lt (Nat.div_le_self _ _) (show 2 * a < 2 ^ 64 by omega))) ?_)
  refine lv_lconst (v := lN 0) hx hb d_M_stepped_12 (by decide) ?_
  refine W.lcmp hx hb d_M_stepped_13 ?_
  refine lv_if_ne (tgt := 21) hx hb d_M_stepped_14 (by decide) (fun hc => ?_) (fun hc => ?_)
  · have hc : 2 * a / 2 ^ n % 2 = 1 := Classical.byContradiction fun z => cmq_ne hc (lN_b0.mpr z)
    rw [if_pos hc] at he
    refine lv_lload_n hx hb d_M_stepped_21 rfl (lv_at hl 0 rfl) ?_
    refine lv_aload_n hx hb d_M_stepped_22 rfl (lv_at hl 1 rfl) ?_
    refine va_get (D := (dC, dI)) (ci := 1) (v := .long (lN p)) (C := R_M) (T := F_M) (N := 3) hx hb hts in_M hown hK hP 0 rfl rfl 0 (by decide) (hts _ kw_29) (fun _ h9 => h9) rfl d_M_stepped_23 ?_
    refine lv_lxor hx hb d_M_stepped_26 ?_
    refine lv_topl (nm_r (show _ = lN (2 * a ^^^ p) from lN_xor _ _) ?_)
    rw [he]
    exact W.lret (v := lN (px_r p (2 * a))) hx hb hr (fun t ht hW => ⟨lN (px_r p (2 * a)), rfl, rfl, ht⟩) (fun _ h => nomatch h) d_M_stepped_27
  · have hc : ¬ 2 * a / 2 ^ n % 2 = 1 := lN_b0.mp (cmq_eq hc)
    rw [if_neg hc] at he
    refine lv_lload_n hx hb d_M_stepped_17 rfl (lv_at hl 0 rfl) ?_
    refine lv_goto (tgt := 27) hx hb d_M_stepped_18 (by decide) ?_
    refine lv_topl (nm_r (show _ = lN (px_r p (2 * a)) from congrArg lN he) ?_)
    exact W.lret (v := lN (px_r p (2 * a))) hx hb hr (fun t ht hW => ⟨lN (px_r p (2 * a)), rfl, rfl, ht⟩) (fun _ h => nomatch h) d_M_stepped_27
set_option maxHeartbeats 4000000 in
set_option maxRecDepth 100000 in
theorem c_M_hasResidue (l : Launch) (dC : Nat → ClassId) (dI : Nat → Nat → Nat) (cI cL : ClassId) (h0 p n a : Nat) (hm : md p n) (ha : a < 2 ^ 64) : Met l y_M_hasResidue w_M_hasResidue ({ frames := 0, cells := 0, slots := 0, locals := 0 } : Room) (va_Pc [.ref h0, .long (lN a)] (wq_R (dC, dI) classes [(h0, .inr (1, [.long (lN p), .int (nI n), .long (lN (px_r p 2))]))] [(cI, .int), (cL, .long)])) (vp_Si (fun r => r = if a < 2 ^ n then 1 else 0)) 0 0 (fun _ => False) := by
  refine Met.ofW (cc := b_M_hasResidue) (maxL := 3) (ret := (Option.some Jvm.ClassFile.FieldType.boolean)) (by decide) rfl ?_
  intro pg en st mm ar bw me co s₁ B hml hv
  obtain ⟨rfl, hP, hK, hN⟩ := hv
  have hx := B.exec
  have hb := B.bytes
  have hr := B.returns
  have hlocks := B.notSynchronized
  have hts0 := atoms_spec (ws := w_M_hasResidue) B.pre
  have hts : ∀ w ∈ gw, w.before _ st = true := fun w h => hts0 w (List.mem_cons_of_mem _ h)
  have hown : st.vm.findClass R_M = some mm.cls := findClass_of_methodNamed B.named
  have hl := lv_entry ([.ref h0, .long (lN a)]) (n := 3) (Nat.le_of_ble_eq_true rfl)
  rw [lg_entry_eq]
  generalize (lg_sl ([.ref h0, .long (lN a)]) ++ List.replicate (3 - (lg_sl ([.ref h0, .long (lN a)])).length) Slot.unset).toArray = ls at hl ⊢
  have hl : lv_has ls 3 [(0, .ref h0), (1, .long (lN a))] := hl
  have hn := hm.2.1
  refine lv_lload_n hx hb d_M_hasResidue_0 rfl (lv_at hl 1 rfl) ?_
  refine lv_aload_n hx hb d_M_hasResidue_1 rfl (lv_at hl 0 rfl) ?_
  refine va_get (D := (dC, dI)) (ci := 1) (v := .int (nI n)) (C := R_M) (T := F_M) (N := 3) hx hb hts in_M hown hK hP 0 rfl rfl 1 (by decide) (hts _ kw_31) (fun _ h9 => h9) rfl d_M_hasResidue_2 ?_
  refine lv_lushr (v := lN (a / 2 ^ n)) hx hb d_M_hasResidue_5 (wb_shr ha (by omega)) ?_
  refine lv_lconst (v := lN 0) hx hb d_M_hasResidue_6 (by decide) ?_
  refine W.lcmp hx hb d_M_hasResidue_7 ?_
  refine lv_if_ne (tgt := 15) hx hb d_M_hasResidue_8 (by decide) (fun hc => ?_) (fun hc => ?_)
  · have hc : ¬ a < 2 ^ n := fun z => cmq_ne hc (by rw [Nat.div_eq_of_lt z])
    refine lv_iconst (v := nI 0) hx hb d_M_hasResidue_15 (by decide) ?_
    exact W.zret (v := nI 0) hx hb hr (rfl) (fun t ht hW => ⟨nI 0, rfl, (by rw [if_neg hc]; rfl), ht⟩) (fun _ h => nomatch h) d_M_hasResidue_16
  · have hc : a < 2 ^ n := by
      have h2 : a / 2 ^ n = 0 := (lN_eqI (b := 0) (Nat.lt_of_le_of_lt (Nat.div_le_self _ _) ha) (by decide)).mp (cmq_eq hc)
      apply Classical.byContradiction
      intro z
      have := Nat.div_pos (Nat.le_of_not_lt z) (Nat.two_pow_pos n)
      omega
    refine lv_iconst (v := nI 1) hx hb d_M_hasResidue_11 (by decide) ?_
    refine lv_goto (tgt := 16) hx hb d_M_hasResidue_12 (by decide) ?_
    exact W.zret (v := nI 1) hx hb hr (rfl) (fun t ht hW => ⟨nI 1, rfl, (by rw [if_pos hc]; rfl), ht⟩) (fun _ h => nomatch h) d_M_hasResidue_16
set_option maxHeartbeats 4000000 in
set_option maxRecDepth 100000 in
theorem c_M_product (l : Launch) (dC : Nat → ClassId) (dI : Nat → Nat → Nat) (cI cL : ClassId) (h0 p n a b : Nat) (hm : md p n) (ha : a < 2 ^ n) (hb2 : b < 2 ^ n) : Met l y_M_product w_M_product ({ frames := 1, cells := 0, slots := 0, locals := 24 } : Room) (va_Pc [.ref h0, .long (lN a), .long (lN b)] (wq_R (dC, dI) classes [(h0, .inr (1, [.long (lN p), .int (nI n), .long (lN (px_r p 2))]))] [(cI, .int), (cL, .long)])) (vp_Sl (fun r => r = lN (px_r p (px_m a b)))) 0 0 (fun _ => False) := by
  refine Met.ofW (cc := b_M_product) (maxL := 8) (ret := (Option.some Jvm.ClassFile.FieldType.long)) (by decide) rfl ?_
  intro pg en st mm ar bw me co s₁ B hml hv
  obtain ⟨rfl, hP, hK, hN⟩ := hv
  have hx := B.exec
  have hb := B.bytes
  have hr := B.returns
  have hlocks := B.notSynchronized
  have hts0 := atoms_spec (ws := w_M_product) B.pre
  have hts : ∀ w ∈ gw, w.before _ st = true := fun w h => hts0 w (List.mem_cons_of_mem _ h)
  have hown : st.vm.findClass R_M = some mm.cls := findClass_of_methodNamed B.named
  have hl := lv_entry ([.ref h0, .long (lN a), .long (lN b)]) (n := 8) (Nat.le_of_ble_eq_true rfl)
  rw [lg_entry_eq]
  generalize (lg_sl ([.ref h0, .long (lN a), .long (lN b)]) ++ List.replicate (8 - (lg_sl ([.ref h0, .long (lN a), .long (lN b)])).length) Slot.unset).toArray = ls at hl ⊢
  have hl : lv_has ls 8 [(0, .ref h0), (1, .long (lN a)), (3, .long (lN b))] := hl
  have hn := hm.2.1
  have hb3 := res_lt hm hb2
  have loop : ∀ (K : Nat), K ≤ n → ∀ (ls : Array Slot), lv_has ls 8 [(0, .ref h0), (1, .long (lN a)), (3, .long (lN b)), (5, .long (lN (px_r p (px_m a (b / 2 ^ K))))), (7, .int (jm K))] → W pg l en (headSpec w_M_product ({ frames := 1, cells := 0, slots := 0, locals := 24 } : Room)).room st mm ([.ref h0, .long (lN a), .long (lN b)] : List Value).toArray bw me co st.heap [] 0 0 (MQ bw (vp_Sl (fun r => r = lN (px_r p (px_m a b)))) ([.ref h0, .long (lN a), .long (lN b)] : List Value).toArray st 0 0 (fun _ => False)) (F0 mm 11 ls []) := by
    intro K
    induction K with
    | zero =>
      intro hKn ls hl
      refine lv_iload hx hb d_M_product_11 (lv_at hl 4 rfl) ?_
      refine lv_if_lt (tgt := 47) hx hb d_M_product_13 (by decide) (fun hc => ?_) (fun hc => ?_)
      · refine lv_lload hx hb d_M_product_47 (lv_at hl 3 rfl) ?_
        refine lv_topl (nm_r (show _ = lN (px_r p (px_m a b)) from show lN (px_r p (px_m a (b / 2 ^ 0))) = _ from by rw [Nat.pow_zero, Nat.div_one]) ?_)
        exact W.lret (v := lN (px_r p (px_m a b))) hx hb hr (fun t ht hW => ⟨lN (px_r p (px_m a b)), rfl, rfl, ht⟩) (fun _ h => nomatch h) d_M_product_49
      · exact absurd ((jm_neg (by decide)).mpr rfl) hc
    | succ K ih =>
      intro hKn ls hl
      have ht := pd_turn hm a b K ha
      refine lv_iload hx hb d_M_product_11 (lv_at hl 4 rfl) ?_
      refine lv_if_lt (tgt := 47) hx hb d_M_product_13 (by decide) (fun hc => ?_) (fun hc => ?_)
      · exact absurd ((jm_neg (by omega)).mp hc) (by omega)
      · have e9 : (jm (K + 1)) = (nI K) := jm_succ K
        have hl : lv_has ls 8 [(0, .ref h0), (1, .long (lN a)), (3, .long (lN b)), (5, .long (lN (px_r p (px_m a (b / 2 ^ (K + 1)))))), (7, .int (nI K))] := by rw [← e9]; exact hl
        refine lv_aload_n hx hb d_M_product_16 rfl (lv_at hl 0 rfl) ?_
        refine lv_lload hx hb d_M_product_17 (lv_at hl 3 rfl) ?_
        refine vp_callSl (va_Run.run (va_runV (As := [.long (lN (px_r p (px_m a (b / 2 ^ (K + 1)))))]) (rest := []) ⟨hx, hb, hml, hown, hts⟩ (c_M_stepped l dC dI cI cL h0 p n _ hm (px_r_lt hm _)) (cwV 1 hts (gi_V kw_143 kw_145 ks_M_stepped kw_2 gi_M_stepped) rfl rfl rfl ⟨rfl, by decide, by decide, by decide⟩ ⟨Nat.le_of_ble_eq_true rfl, Nat.le_of_ble_eq_true rfl⟩) (wq_preVR hP hK hN [0] rfl (q0 := 0) (ci := 1) rfl rfl rfl) rfl rfl hl.1 rfl (lv_room (Nat.le_of_ble_eq_true rfl)) d_M_product_19 ⟨Nat.le_of_ble_eq_true rfl, Nat.le_of_ble_eq_true rfl⟩)) (fun r hq => ?_)
        subst hq
        refine lv_lstore (lv' := [(5, .long (lN (px_r p (2 * px_r p (px_m a (b / 2 ^ (K + 1))))))), (0, .ref h0), (1, .long (lN a)), (3, .long (lN b)), (7, .int (nI K))]) hx hb d_M_product_22 hl (by decide) rfl (fun ls hl => ?_)
        refine lv_lload_n hx hb d_M_product_24 rfl (lv_at hl 3 rfl) ?_
        refine lv_iload hx hb d_M_product_25 (lv_at hl 4 rfl) ?_
        refine lv_lushr (v := lN (b / 2 ^ K)) hx hb d_M_product_27 (wb_shr (show b < 2 ^ 64 by omega) (by omega)) ?_
        refine lv_lconst (v := lN 1) hx hb d_M_product_28 (by decide) ?_
        refine lv_land hx hb d_M_product_29 ?_
        refine lv_topl (nm_r (show _ = lN (b / 2 ^ K % 2) from g1_and (show b / 2 ^ K < 2 ^ 64 from Nat.lt_of_le_of_lt (Nat.div_le_self _ _) (show b < 2 ^ 64 by omega))) ?_)
        refine lv_lconst (v := lN 1) hx hb d_M_product_30 (by decide) ?_
        refine W.lcmp hx hb d_M_product_31 ?_
        refine lv_if_ne (tgt := 41) hx hb d_M_product_32 (by decide) (fun hbit => ?_) (fun hbit => ?_)
        · have hbit : ¬ b / 2 ^ K % 2 = 1 := fun z => cmq_ne hbit (by rw [z])
          rw [if_neg hbit] at ht
          have e9 : (lN (px_r p (2 * px_r p (px_m a (b / 2 ^ (K + 1)))))) = (lN (px_r p (px_m a (b / 2 ^ K)))) := congrArg lN ht
          have hl : lv_has ls 8 [(5, .long (lN (px_r p (px_m a (b / 2 ^ K))))), (0, .ref h0), (1, .long (lN a)), (3, .long (lN b)), (7, .int (nI K))] := by rw [← e9]; exact hl
          refine lv_iinc (v := jm K) (lv' := [(7, .int (jm K)), (5, .long (lN (px_r p (px_m a (b / 2 ^ K))))), (0, .ref h0), (1, .long (lN a)), (3, .long (lN b))]) hx hb d_M_product_41 hl (k := 4) rfl (jm_dec K) (by decide) rfl (fun ls hl => ?_)
          refine lv_goto (tgt := 11) hx hb d_M_product_44 (by decide) ?_
          have hl := lv_sub (l' := [(0, .ref h0), (1, .long (lN a)), (3, .long (lN b)), (5, .long (lN (px_r p (px_m a (b / 2 ^ K))))), (7, .int (jm K))]) hl [2, 3, 4, 1, 0] rfl
          exact ih (by omega) ls hl
        · have hbit : b / 2 ^ K % 2 = 1 := lN_b1.mp (cmq_eq hbit)
          rw [if_pos hbit] at ht
          refine lv_lload hx hb d_M_product_35 (lv_at hl 0 rfl) ?_
          refine lv_lload_n hx hb d_M_product_37 rfl (lv_at hl 2 rfl) ?_
          refine lv_lxor hx hb d_M_product_38 ?_
          refine lv_topl (nm_r (show _ = lN (px_r p (px_m a (b / 2 ^ K))) from (lN_xor _ _).trans (by rw [ht])) ?_)
          refine lv_lstore (lv' := [(5, .long (lN (px_r p (px_m a (b / 2 ^ K))))), (0, .ref h0), (1, .long (lN a)), (3, .long (lN b)), (7, .int (nI K))]) hx hb d_M_product_39 hl (by decide) rfl (fun ls hl => ?_)
          refine lv_iinc (v := jm K) (lv' := [(7, .int (jm K)), (5, .long (lN (px_r p (px_m a (b / 2 ^ K))))), (0, .ref h0), (1, .long (lN a)), (3, .long (lN b))]) hx hb d_M_product_41 hl (k := 4) rfl (jm_dec K) (by decide) rfl (fun ls hl => ?_)
          refine lv_goto (tgt := 11) hx hb d_M_product_44 (by decide) ?_
          have hl := lv_sub (l' := [(0, .ref h0), (1, .long (lN a)), (3, .long (lN b)), (5, .long (lN (px_r p (px_m a (b / 2 ^ K))))), (7, .int (jm K))]) hl [2, 3, 4, 1, 0] rfl
          exact ih (by omega) ls hl
  refine lv_lconst (v := lN 0) hx hb d_M_product_0 (by decide) ?_
  refine lv_lstore (lv' := [(5, .long (lN 0)), (0, .ref h0), (1, .long (lN a)), (3, .long (lN b))]) hx hb d_M_product_1 hl (by decide) rfl (fun ls hl => ?_)
  refine lv_aload_n hx hb d_M_product_3 rfl (lv_at hl 1 rfl) ?_
  refine va_get (D := (dC, dI)) (ci := 1) (v := .int (nI n)) (C := R_M) (T := F_M) (N := 3) hx hb hts in_M hown hK hP 0 rfl rfl 1 (by decide) (hts _ kw_31) (fun _ h9 => h9) rfl d_M_product_4 ?_
  refine lv_iconst (v := nI 1) hx hb d_M_product_7 (by decide) ?_
  refine lv_isub hx hb d_M_product_8 ?_
  refine lv_topi (nm_r (show _ = jm n from show nI n - nI 1 = jm n from rfl) ?_)
  refine lv_istore (lv' := [(7, .int (jm n)), (5, .long (lN 0)), (0, .ref h0), (1, .long (lN a)), (3, .long (lN b))]) hx hb d_M_product_9 hl (by decide) rfl (fun ls hl => ?_)
  have e9 : (lN 0) = (lN (px_r p (px_m a (b / 2 ^ n)))) := congrArg lN (pd_top hm a b hb2).symm
  have hl : lv_has ls 8 [(7, .int (jm n)), (5, .long (lN (px_r p (px_m a (b / 2 ^ n))))), (0, .ref h0), (1, .long (lN a)), (3, .long (lN b))] := by rw [← e9]; exact hl
  have hl := lv_sub (l' := [(0, .ref h0), (1, .long (lN a)), (3, .long (lN b)), (5, .long (lN (px_r p (px_m a (b / 2 ^ n))))), (7, .int (jm n))]) hl [2, 3, 4, 1, 0] rfl
  exact loop n (Nat.le_refl n) ls hl
set_option maxHeartbeats 4000000 in
set_option maxRecDepth 100000 in
theorem c_M_raised (l : Launch) (dC : Nat → ClassId) (dI : Nat → Nat → Nat) (cI cL : ClassId) (h0 p n a e : Nat) (hm : md p n) (ha : a < 2 ^ n) (he : e < 2 ^ 64) : Met l y_M_raised w_M_raised ({ frames := 2, cells := 0, slots := 0, locals := 51 } : Room) (va_Pc [.ref h0, .long (lN a), .long (lN e)] (wq_R (dC, dI) classes [(h0, .inr (1, [.long (lN p), .int (nI n), .long (lN (px_r p 2))]))] [(cI, .int), (cL, .long)])) (vp_Sl (fun r => r = lN (px_r p (px_pw a e)))) 0 0 (fun _ => False) := by
  refine Met.ofW (cc := b_M_raised) (maxL := 10) (ret := (Option.some Jvm.ClassFile.FieldType.long)) (by decide) rfl ?_
  intro pg en st mm ar bw me co s₁ B hml hv
  obtain ⟨rfl, hP, hK, hN⟩ := hv
  have hx := B.exec
  have hb := B.bytes
  have hr := B.returns
  have hlocks := B.notSynchronized
  have hts0 := atoms_spec (ws := w_M_raised) B.pre
  have hts : ∀ w ∈ gw, w.before _ st = true := fun w h => hts0 w (List.mem_cons_of_mem _ h)
  have hown : st.vm.findClass R_M = some mm.cls := findClass_of_methodNamed B.named
  have hl := lv_entry ([.ref h0, .long (lN a), .long (lN e)]) (n := 10) (Nat.le_of_ble_eq_true rfl)
  rw [lg_entry_eq]
  generalize (lg_sl ([.ref h0, .long (lN a), .long (lN e)]) ++ List.replicate (10 - (lg_sl ([.ref h0, .long (lN a), .long (lN e)])).length) Slot.unset).toArray = ls at hl ⊢
  have hl : lv_has ls 10 [(0, .ref h0), (1, .long (lN a)), (3, .long (lN e))] := hl
  have loop : ∀ (j k : Nat), j + k = 64 → ∀ (ls : Array Slot), lv_has ls 10 [(0, .ref h0), (1, .long (lN a)), (3, .long (lN e)), (5, .long (lN (px_r p (px_pw a (e % 2 ^ k))))), (7, .long (lN (px_r p (px_pw a (2 ^ k))))), (9, .int (nI k))] → W pg l en (headSpec w_M_raised ({ frames := 2, cells := 0, slots := 0, locals := 51 } : Room)).room st mm ([.ref h0, .long (lN a), .long (lN e)] : List Value).toArray bw me co st.heap [] 0 0 (MQ bw (vp_Sl (fun r => r = lN (px_r p (px_pw a e)))) ([.ref h0, .long (lN a), .long (lN e)] : List Value).toArray st 0 0 (fun _ => False)) (F0 mm 9 ls []) := by
    intro j
    induction j with
    | zero =>
      intro k hk ls hl
      refine lv_iload hx hb d_M_raised_9 (lv_at hl 5 rfl) ?_
      refine lv_bipush (v := nI 64) hx hb d_M_raised_11 (by decide) ?_
      refine lv_icmp_ge (tgt := 62) hx hb d_M_raised_13 (by decide) (fun hc => ?_) (fun hc => ?_)
      · refine lv_lload hx hb d_M_raised_62 (lv_at hl 3 rfl) ?_
        refine lv_topl (nm_r (show _ = lN (px_r p (px_pw a e)) from show lN (px_r p (px_pw a (e % 2 ^ k))) = _ from by rw [Nat.mod_eq_of_lt (by rw [show k = 64 by omega]; exact he)]) ?_)
        exact W.lret (v := lN (px_r p (px_pw a e))) hx hb hr (fun t ht hW => ⟨lN (px_r p (px_pw a e)), rfl, rfl, ht⟩) (fun _ h => nomatch h) d_M_raised_64
      · exact absurd ((nI_leI (by decide) (by omega)).mpr (by omega)) hc
    | succ j ih =>
      intro k hk ls hl
      have ht := pw_turn hm a e k
      refine lv_iload hx hb d_M_raised_9 (lv_at hl 5 rfl) ?_
      refine lv_bipush (v := nI 64) hx hb d_M_raised_11 (by decide) ?_
      refine lv_icmp_ge (tgt := 62) hx hb d_M_raised_13 (by decide) (fun hc => ?_) (fun hc => ?_)
      · exact absurd ((nI_leI (by decide) (by omega)).mp hc) (by omega)
      · refine lv_lload_n hx hb d_M_raised_16 rfl (lv_at hl 2 rfl) ?_
        refine lv_iload hx hb d_M_raised_17 (lv_at hl 5 rfl) ?_
        refine lv_lushr (v := lN (e / 2 ^ k)) hx hb d_M_raised_19 (wb_shr he (by omega)) ?_
        refine lv_lconst (v := lN 0) hx hb d_M_raised_20 (by decide) ?_
        refine W.lcmp hx hb d_M_raised_21 ?_
        refine lv_if_eq (tgt := 62) hx hb d_M_raised_22 (by decide) (fun hz => ?_) (fun hz => ?_)
        · have hz : e / 2 ^ k = 0 := (lN_eqI (b := 0) (Nat.lt_of_le_of_lt (Nat.div_le_self _ _) he) (by decide)).mp (cmq_eq hz)
          refine lv_lload hx hb d_M_raised_62 (lv_at hl 3 rfl) ?_
          refine lv_topl (nm_r (show _ = lN (px_r p (px_pw a e)) from show lN (px_r p (px_pw a (e % 2 ^ k))) = _ from by rw [Nat.mod_eq_of_lt (Classical.byContradiction fun z => by have := Nat.div_pos (Nat.le_of_not_lt z) (Nat.two_pow_pos k); omega)]) ?_)
          exact W.lret (v := lN (px_r p (px_pw a e))) hx hb hr (fun t ht hW => ⟨lN (px_r p (px_pw a e)), rfl, rfl, ht⟩) (fun _ h => nomatch h) d_M_raised_64
        · refine lv_lload_n hx hb d_M_raised_25 rfl (lv_at hl 2 rfl) ?_
          refine lv_iload hx hb d_M_raised_26 (lv_at hl 5 rfl) ?_
          refine lv_lushr (v := lN (e / 2 ^ k)) hx hb d_M_raised_28 (wb_shr he (by omega)) ?_
          refine lv_lconst (v := lN 1) hx hb d_M_raised_29 (by decide) ?_
          refine lv_land hx hb d_M_raised_30 ?_
          refine lv_topl (nm_r (show _ = lN (e / 2 ^ k % 2) from g1_and (show e / 2 ^ k < 2 ^ 64 from Nat.lt_of_le_of_lt (Nat.div_le_self _ _) he)) ?_)
          refine lv_lconst (v := lN 1) hx hb d_M_raised_31 (by decide) ?_
          refine W.lcmp hx hb d_M_raised_32 ?_
          refine lv_if_ne (tgt := 46) hx hb d_M_raised_33 (by decide) (fun hbit => ?_) (fun hbit => ?_)
          · have hbit : ¬ e / 2 ^ k % 2 = 1 := fun z => cmq_ne hbit (by rw [z])
            rw [if_neg hbit] at ht
            have e9 : (lN (px_r p (px_pw a (e % 2 ^ k)))) = (lN (px_r p (px_pw a (e % 2 ^ (k + 1))))) := congrArg lN ht
            have hl : lv_has ls 10 [(0, .ref h0), (1, .long (lN a)), (3, .long (lN e)), (5, .long (lN (px_r p (px_pw a (e % 2 ^ (k + 1)))))), (7, .long (lN (px_r p (px_pw a (2 ^ k))))), (9, .int (nI k))] := by rw [← e9]; exact hl
            refine lv_aload_n hx hb d_M_raised_46 rfl (lv_at hl 0 rfl) ?_
            refine lv_lload hx hb d_M_raised_47 (lv_at hl 4 rfl) ?_
            refine lv_lload hx hb d_M_raised_49 (lv_at hl 4 rfl) ?_
            refine vp_callSl (va_Run.run (va_runV (As := [.long (lN (px_r p (px_pw a (2 ^ k)))), .long (lN (px_r p (px_pw a (2 ^ k))))]) (rest := []) ⟨hx, hb, hml, hown, hts⟩ (c_M_product l dC dI cI cL h0 p n _ _ hm (px_r_lt hm _) (px_r_lt hm _)) (cwV 2 hts (gi_V kw_139 kw_141 ks_M_product kw_2 gi_M_product) rfl rfl rfl ⟨rfl, by decide, by decide, by decide⟩ ⟨Nat.le_of_ble_eq_true rfl, Nat.le_of_ble_eq_true rfl⟩) (wq_preVR hP hK hN [0] rfl (q0 := 0) (ci := 1) rfl rfl rfl) rfl rfl hl.1 rfl (lv_room (Nat.le_of_ble_eq_true rfl)) d_M_raised_51 ⟨Nat.le_of_ble_eq_true rfl, Nat.le_of_ble_eq_true rfl⟩)) (fun r hq2 => ?_)
            subst hq2
            refine lv_topl (nm_r (show _ = lN (px_r p (px_pw a (2 ^ (k + 1)))) from show _ = lN (px_r p (px_pw a (2 ^ (k + 1)))) from by rw [pw_sq hm]) ?_)
            refine lv_lstore (lv' := [(7, .long (lN (px_r p (px_pw a (2 ^ (k + 1)))))), (0, .ref h0), (1, .long (lN a)), (3, .long (lN e)), (5, .long (lN (px_r p (px_pw a (e % 2 ^ (k + 1)))))), (9, .int (nI k))]) hx hb d_M_raised_54 hl (by decide) rfl (fun ls hl => ?_)
            refine lv_iinc (v := nI (k + 1)) (lv' := [(9, .int (nI (k + 1))), (7, .long (lN (px_r p (px_pw a (2 ^ (k + 1)))))), (0, .ref h0), (1, .long (lN a)), (3, .long (lN e)), (5, .long (lN (px_r p (px_pw a (e % 2 ^ (k + 1))))))]) hx hb d_M_raised_56 hl (k := 5) rfl (nI_1 k) (by decide) rfl (fun ls hl => ?_)
            refine lv_goto (tgt := 9) hx hb d_M_raised_59 (by decide) ?_
            have hl := lv_sub (l' := [(0, .ref h0), (1, .long (lN a)), (3, .long (lN e)), (5, .long (lN (px_r p (px_pw a (e % 2 ^ (k + 1)))))), (7, .long (lN (px_r p (px_pw a (2 ^ (k + 1)))))), (9, .int (nI (k + 1)))]) hl [2, 3, 4, 5, 1, 0] rfl
            exact ih (k + 1) (by omega) ls hl
          · have hbit : e / 2 ^ k % 2 = 1 := lN_b1.mp (cmq_eq hbit)
            rw [if_pos hbit] at ht
            refine lv_aload_n hx hb d_M_raised_36 rfl (lv_at hl 0 rfl) ?_
            refine lv_lload hx hb d_M_raised_37 (lv_at hl 3 rfl) ?_
            refine lv_lload hx hb d_M_raised_39 (lv_at hl 4 rfl) ?_
            refine vp_callSl (va_Run.run (va_runV (As := [.long (lN (px_r p (px_pw a (e % 2 ^ k)))), .long (lN (px_r p (px_pw a (2 ^ k))))]) (rest := []) ⟨hx, hb, hml, hown, hts⟩ (c_M_product l dC dI cI cL h0 p n _ _ hm (px_r_lt hm _) (px_r_lt hm _)) (cwV 2 hts (gi_V kw_139 kw_141 ks_M_product kw_2 gi_M_product) rfl rfl rfl ⟨rfl, by decide, by decide, by decide⟩ ⟨Nat.le_of_ble_eq_true rfl, Nat.le_of_ble_eq_true rfl⟩) (wq_preVR hP hK hN [0] rfl (q0 := 0) (ci := 1) rfl rfl rfl) rfl rfl hl.1 rfl (lv_room (Nat.le_of_ble_eq_true rfl)) d_M_raised_41 ⟨Nat.le_of_ble_eq_true rfl, Nat.le_of_ble_eq_true rfl⟩)) (fun r hq => ?_)
            subst hq
            refine lv_topl (nm_r (show _ = lN (px_r p (px_pw a (e % 2 ^ (k + 1)))) from show _ = lN (px_r p (px_pw a (e % 2 ^ (k + 1)))) from by rw [ht]) ?_)
            refine lv_lstore (lv' := [(5, .long (lN (px_r p (px_pw a (e % 2 ^ (k + 1)))))), (0, .ref h0), (1, .long (lN a)), (3, .long (lN e)), (7, .long (lN (px_r p (px_pw a (2 ^ k))))), (9, .int (nI k))]) hx hb d_M_raised_44 hl (by decide) rfl (fun ls hl => ?_)
            refine lv_aload_n hx hb d_M_raised_46 rfl (lv_at hl 1 rfl) ?_
            refine lv_lload hx hb d_M_raised_47 (lv_at hl 4 rfl) ?_
            refine lv_lload hx hb d_M_raised_49 (lv_at hl 4 rfl) ?_
            refine vp_callSl (va_Run.run (va_runV (As := [.long (lN (px_r p (px_pw a (2 ^ k)))), .long (lN (px_r p (px_pw a (2 ^ k))))]) (rest := []) ⟨hx, hb, hml, hown, hts⟩ (c_M_product l dC dI cI cL h0 p n _ _ hm (px_r_lt hm _) (px_r_lt hm _)) (cwV 2 hts (gi_V kw_139 kw_141 ks_M_product kw_2 gi_M_product) rfl rfl rfl ⟨rfl, by decide, by decide, by decide⟩ ⟨Nat.le_of_ble_eq_true rfl, Nat.le_of_ble_eq_true rfl⟩) (wq_preVR hP hK hN [0] rfl (q0 := 0) (ci := 1) rfl rfl rfl) rfl rfl hl.1 rfl (lv_room (Nat.le_of_ble_eq_true rfl)) d_M_raised_51 ⟨Nat.le_of_ble_eq_true rfl, Nat.le_of_ble_eq_true rfl⟩)) (fun r hq2 => ?_)
            subst hq2
            refine lv_topl (nm_r (show _ = lN (px_r p (px_pw a (2 ^ (k + 1)))) from show _ = lN (px_r p (px_pw a (2 ^ (k + 1)))) from by rw [pw_sq hm]) ?_)
            refine lv_lstore (lv' := [(7, .long (lN (px_r p (px_pw a (2 ^ (k + 1)))))), (5, .long (lN (px_r p (px_pw a (e % 2 ^ (k + 1)))))), (0, .ref h0), (1, .long (lN a)), (3, .long (lN e)), (9, .int (nI k))]) hx hb d_M_raised_54 hl (by decide) rfl (fun ls hl => ?_)
            refine lv_iinc (v := nI (k + 1)) (lv' := [(9, .int (nI (k + 1))), (7, .long (lN (px_r p (px_pw a (2 ^ (k + 1)))))), (5, .long (lN (px_r p (px_pw a (e % 2 ^ (k + 1)))))), (0, .ref h0), (1, .long (lN a)), (3, .long (lN e))]) hx hb d_M_raised_56 hl (k := 5) rfl (nI_1 k) (by decide) rfl (fun ls hl => ?_)
            refine lv_goto (tgt := 9) hx hb d_M_raised_59 (by decide) ?_
            have hl := lv_sub (l' := [(0, .ref h0), (1, .long (lN a)), (3, .long (lN e)), (5, .long (lN (px_r p (px_pw a (e % 2 ^ (k + 1)))))), (7, .long (lN (px_r p (px_pw a (2 ^ (k + 1)))))), (9, .int (nI (k + 1)))]) hl [3, 4, 5, 2, 1, 0] rfl
            exact ih (k + 1) (by omega) ls hl
  refine lv_lconst (v := lN 1) hx hb d_M_raised_0 (by decide) ?_
  refine lv_lstore (lv' := [(5, .long (lN 1)), (0, .ref h0), (1, .long (lN a)), (3, .long (lN e))]) hx hb d_M_raised_1 hl (by decide) rfl (fun ls hl => ?_)
  refine lv_lload_n hx hb d_M_raised_3 rfl (lv_at hl 2 rfl) ?_
  refine lv_lstore (lv' := [(7, .long (lN a)), (5, .long (lN 1)), (0, .ref h0), (1, .long (lN a)), (3, .long (lN e))]) hx hb d_M_raised_4 hl (by decide) rfl (fun ls hl => ?_)
  refine lv_iconst (v := nI 0) hx hb d_M_raised_6 (by decide) ?_
  refine lv_istore (lv' := [(9, .int (nI 0)), (7, .long (lN a)), (5, .long (lN 1)), (0, .ref h0), (1, .long (lN a)), (3, .long (lN e))]) hx hb d_M_raised_7 hl (by decide) rfl (fun ls hl => ?_)
  have e1 : lN 1 = lN (px_r p (px_pw a (e % 2 ^ 0))) := by rw [Nat.pow_zero, Nat.mod_one, show px_pw a 0 = 1 from rfl, md_odd1 hm]
  have e2 : lN a = lN (px_r p (px_pw a (2 ^ 0))) := by rw [Nat.pow_zero, px_pw_one, px_r_self hm ha]
  have hl := lv_sub (l' := [(0, .ref h0), (1, .long (lN a)), (3, .long (lN e)), (5, .long (lN 1)), (7, .long (lN a)), (9, .int (nI 0))]) hl [3, 4, 5, 2, 1, 0] rfl
  have hl : lv_has ls 10 [(0, .ref h0), (1, .long (lN a)), (3, .long (lN e)), (5, .long (lN (px_r p (px_pw a (e % 2 ^ 0))))), (7, .long (lN (px_r p (px_pw a (2 ^ 0))))), (9, .int (nI 0))] := by rw [← e1, ← e2]; exact hl
  exact loop 64 0 rfl ls hl
set_option maxHeartbeats 4000000 in
set_option maxRecDepth 100000 in
theorem c_M_quotient (l : Launch) (a b : Nat) (ha : a < 2 ^ 64) (hb0 : b ≠ 0) (hb1 : b < 2 ^ 64) : Met l y_M_quotient w_M_quotient ({ frames := 3, cells := 0, slots := 0, locals := 64 } : Room) (va_Pc [.long (lN a), .long (lN b)] (fun _ => True)) (vp_Sl (fun r => r = lN (qt a b))) 0 0 (fun _ => False) := by
  refine Met.ofW (cc := b_M_quotient) (maxL := 10) (ret := (Option.some Jvm.ClassFile.FieldType.long)) (by decide) rfl ?_
  intro pg en st mm ar bw me co s₁ B hml hv
  obtain ⟨rfl, -⟩ := hv
  have hx := B.exec
  have hb := B.bytes
  have hr := B.returns
  have hlocks := B.notSynchronized
  have hts0 := atoms_spec (ws := w_M_quotient) B.pre
  have hts : ∀ w ∈ gw, w.before _ st = true := fun w h => hts0 w (List.mem_cons_of_mem _ h)
  have hown : st.vm.findClass R_M = some mm.cls := findClass_of_methodNamed B.named
  have hl := lv_entry ([.long (lN a), .long (lN b)]) (n := 10) (Nat.le_of_ble_eq_true rfl)
  rw [lg_entry_eq]
  generalize (lg_sl ([.long (lN a), .long (lN b)]) ++ List.replicate (10 - (lg_sl ([.long (lN a), .long (lN b)])).length) Slot.unset).toArray = ls at hl ⊢
  have hl : lv_has ls 10 [(0, .long (lN a)), (2, .long (lN b))] := hl
  have hlo : b.log2 < 64 := (Nat.log2_lt hb0).2 hb1
  have loop : ∀ (K v q : Nat), K ≤ 64 → v < 2 ^ K → a = px_m q b ^^^ v → q < 2 ^ 64 → q % 2 ^ (K - b.log2) = 0 → ∀ (ls : Array Slot), lv_has ls 10 [(0, .long (lN a)), (2, .long (lN b)), (4, .int (nI b.log2)), (5, .long (lN v)), (7, .long (lN q)), (9, .int (jm K))] → W pg l en (headSpec w_M_quotient ({ frames := 3, cells := 0, slots := 0, locals := 64 } : Room)).room st mm ([.long (lN a), .long (lN b)] : List Value).toArray bw me co st.heap [] 0 0 (MQ bw (vp_Sl (fun r => r = lN (qt a b))) ([.long (lN a), .long (lN b)] : List Value).toArray st 0 0 (fun _ => False)) (F0 mm 18 ls []) := by
    intro K
    induction K with
    | zero =>
      intro v q hK hv hc hq hw ls hl
      refine lv_iload hx hb d_M_quotient_18 (lv_at hl 5 rfl) ?_
      refine lv_iload hx hb d_M_quotient_20 (lv_at hl 2 rfl) ?_
      refine lv_icmp_lt (tgt := 67) hx hb d_M_quotient_22 (by decide) (fun hj => ?_) (fun hj => ?_)
      · refine lv_lload hx hb d_M_quotient_67 (lv_at hl 4 rfl) ?_
        refine lv_topl (nm_r (show _ = lN (qt a b) from by rw [qt_of hb0 hc (Nat.lt_of_lt_of_le hv (Nat.pow_le_pow_right (by decide) (by omega)))]) ?_)
        exact W.lret (v := lN (qt a b)) hx hb hr (fun t ht hW => ⟨lN (qt a b), rfl, rfl, ht⟩) (fun _ h => nomatch h) d_M_quotient_69
      · exact absurd ((jm_lt (by omega) (by omega)).mpr (by omega)) hj
    | succ K ih =>
      intro v q hK hv hc hq hw ls hl
      refine lv_iload hx hb d_M_quotient_18 (lv_at hl 5 rfl) ?_
      refine lv_iload hx hb d_M_quotient_20 (lv_at hl 2 rfl) ?_
      refine lv_icmp_lt (tgt := 67) hx hb d_M_quotient_22 (by decide) (fun hj => ?_) (fun hj => ?_)
      · have hj := (jm_lt (by omega) (by omega)).mp hj
        refine lv_lload hx hb d_M_quotient_67 (lv_at hl 4 rfl) ?_
        refine lv_topl (nm_r (show _ = lN (qt a b) from by rw [qt_of hb0 hc (Nat.lt_of_lt_of_le hv (Nat.pow_le_pow_right (by decide) (by omega)))]) ?_)
        exact W.lret (v := lN (qt a b)) hx hb hr (fun t ht hW => ⟨lN (qt a b), rfl, rfl, ht⟩) (fun _ h => nomatch h) d_M_quotient_69
      · have hj : b.log2 ≤ K := Classical.byContradiction fun hn => hj ((jm_lt (by omega) (by omega)).mpr (by omega))
        have hv64 : v < 2 ^ 64 := Nat.lt_of_lt_of_le hv (Nat.pow_le_pow_right (by decide) (by omega))
        rw [show K + 1 - b.log2 = K - b.log2 + 1 by omega] at hw
        have e9 : (jm (K + 1)) = (nI K) := jm_succ K
        have hl : lv_has ls 10 [(0, .long (lN a)), (2, .long (lN b)), (4, .int (nI b.log2)), (5, .long (lN v)), (7, .long (lN q)), (9, .int (nI K))] := by rw [← e9]; exact hl
        have ht := dv_turn (px_lg1 hb0) (px_lg2 b) hj hv
        refine lv_lload hx hb d_M_quotient_25 (lv_at hl 3 rfl) ?_
        refine lv_iload hx hb d_M_quotient_27 (lv_at hl 5 rfl) ?_
        refine lv_lushr (v := lN (v / 2 ^ K)) hx hb d_M_quotient_29 (wb_shr hv64 (by omega)) ?_
        refine lv_lconst (v := lN 1) hx hb d_M_quotient_30 (by decide) ?_
        refine lv_land hx hb d_M_quotient_31 ?_
        refine lv_topl (nm_r (show _ = lN (v / 2 ^ K % 2) from g1_and (show v / 2 ^ K < 2 ^ 64 from Nat.lt_of_le_of_lt (Nat.div_le_self _ _) hv64)) ?_)
        refine lv_lconst (v := lN 1) hx hb d_M_quotient_32 (by decide) ?_
        refine W.lcmp hx hb d_M_quotient_33 ?_
        refine lv_if_ne (tgt := 61) hx hb d_M_quotient_34 (by decide) (fun hbit => ?_) (fun hbit => ?_)
        · have hbit : ¬ v / 2 ^ K % 2 = 1 := fun z => cmq_ne hbit (by rw [z])
          rw [if_neg hbit] at ht
          refine lv_iinc (v := jm K) (lv' := [(9, .int (jm K)), (0, .long (lN a)), (2, .long (lN b)), (4, .int (nI b.log2)), (5, .long (lN v)), (7, .long (lN q))]) hx hb d_M_quotient_61 hl (k := 5) rfl (jm_dec K) (by decide) rfl (fun ls hl => ?_)
          refine lv_goto (tgt := 18) hx hb d_M_quotient_64 (by decide) ?_
          have hl := lv_sub (l' := [(0, .long (lN a)), (2, .long (lN b)), (4, .int (nI b.log2)), (5, .long (lN v)), (7, .long (lN q)), (9, .int (jm K))]) hl [1, 2, 3, 4, 5, 0] rfl
          exact ih v q (by omega) ht.1 hc hq (qw_mod0 hw) ls hl
        · have hbit : v / 2 ^ K % 2 = 1 := lN_b1.mp (cmq_eq hbit)
          rw [if_pos hbit] at ht
          refine lv_lload hx hb d_M_quotient_37 (lv_at hl 3 rfl) ?_
          refine lv_lload_n hx hb d_M_quotient_39 rfl (lv_at hl 1 rfl) ?_
          refine lv_iload hx hb d_M_quotient_40 (lv_at hl 5 rfl) ?_
          refine lv_iload hx hb d_M_quotient_42 (lv_at hl 2 rfl) ?_
          refine lv_isub hx hb d_M_quotient_44 ?_
          refine lv_topi (nm_r (show _ = nI (K - b.log2) from pk_sub hj) ?_)
          refine lv_lshl (v := lN (b * 2 ^ (K - b.log2))) hx hb d_M_quotient_45 (wb_shl b (by omega)) ?_
          refine lv_lxor hx hb d_M_quotient_46 ?_
          refine lv_topl (nm_r (show _ = lN (v ^^^ b * 2 ^ (K - b.log2)) from lN_xor _ _) ?_)
          refine lv_lstore (lv' := [(5, .long (lN (v ^^^ b * 2 ^ (K - b.log2)))), (0, .long (lN a)), (2, .long (lN b)), (4, .int (nI b.log2)), (7, .long (lN q)), (9, .int (nI K))]) hx hb d_M_quotient_47 hl (by decide) rfl (fun ls hl => ?_)
          refine lv_lload hx hb d_M_quotient_49 (lv_at hl 4 rfl) ?_
          refine lv_lconst (v := lN 1) hx hb d_M_quotient_51 (by decide) ?_
          refine lv_iload hx hb d_M_quotient_52 (lv_at hl 5 rfl) ?_
          refine lv_iload hx hb d_M_quotient_54 (lv_at hl 3 rfl) ?_
          refine lv_isub hx hb d_M_quotient_56 ?_
          refine lv_topi (nm_r (show _ = nI (K - b.log2) from pk_sub hj) ?_)
          refine lv_lshl (v := lN (1 * 2 ^ (K - b.log2))) hx hb d_M_quotient_57 (wb_shl 1 (by omega)) ?_
          refine lv_topl (nm_r (show _ = lN (2 ^ (K - b.log2)) from show lN (1 * 2 ^ (K - b.log2)) = _ from by rw [Nat.one_mul]) ?_)
          refine lv_lor hx hb d_M_quotient_58 ?_
          have h2p : 2 ^ (K - b.log2) < 2 ^ 64 := Nat.pow_lt_pow_right (by decide) (by omega)
          refine lv_topl (nm_r (show _ = lN (q ^^^ 2 ^ (K - b.log2)) from (wb_or hq h2p).trans (by rw [qw_or hw])) ?_)
          refine lv_lstore (lv' := [(7, .long (lN (q ^^^ 2 ^ (K - b.log2)))), (5, .long (lN (v ^^^ b * 2 ^ (K - b.log2)))), (0, .long (lN a)), (2, .long (lN b)), (4, .int (nI b.log2)), (9, .int (nI K))]) hx hb d_M_quotient_59 hl (by decide) rfl (fun ls hl => ?_)
          have hc2 : a = px_m (q ^^^ 2 ^ (K - b.log2)) b ^^^ (v ^^^ b * 2 ^ (K - b.log2)) := by
            rw [px_m_xor_left, px_m_comm (2 ^ (K - b.log2)) b, px_m_pow2, show px_m q b ^^^ b * 2 ^ (K - b.log2) ^^^ (v ^^^ b * 2 ^ (K - b.log2)) = px_m q b ^^^ v ^^^ b * 2 ^ (K - b.log2) ^^^ b * 2 ^ (K - b.log2) by ac_rfl, px_cc]
            exact hc
          refine lv_iinc (v := jm K) (lv' := [(9, .int (jm K)), (7, .long (lN (q ^^^ 2 ^ (K - b.log2)))), (5, .long (lN (v ^^^ b * 2 ^ (K - b.log2)))), (0, .long (lN a)), (2, .long (lN b)), (4, .int (nI b.log2))]) hx hb d_M_quotient_61 hl (k := 5) rfl (jm_dec K) (by decide) rfl (fun ls hl => ?_)
          refine lv_goto (tgt := 18) hx hb d_M_quotient_64 (by decide) ?_
          have hl := lv_sub (l' := [(0, .long (lN a)), (2, .long (lN b)), (4, .int (nI b.log2)), (5, .long (lN (v ^^^ b * 2 ^ (K - b.log2)))), (7, .long (lN (q ^^^ 2 ^ (K - b.log2)))), (9, .int (jm K))]) hl [3, 4, 5, 2, 1, 0] rfl
          exact ih (v ^^^ b * 2 ^ (K - b.log2)) (q ^^^ 2 ^ (K - b.log2)) (by omega) ht.1 hc2 (Nat.xor_lt_two_pow hq h2p) (qw_mod hw) ls hl
  refine lv_lload_n hx hb d_M_quotient_0 rfl (lv_at hl 1 rfl) ?_
  refine vp_callSi (va_Run.run (va_runS (As := [.long (lN b)]) (rest := []) ⟨hx, hb, hml, hown, hts⟩ (c_M_degreeOf l b hb1) (va_cwS 1 hts (gi_S kw_121 kw_122 kw_2 gi_M_degreeOf) rfl rfl rfl ⟨by decide, by decide, by decide⟩ ⟨Nat.le_of_ble_eq_true rfl, Nat.le_of_ble_eq_true rfl⟩) wq_preS0 rfl rfl hl.1 rfl (lv_room (Nat.le_of_ble_eq_true rfl)) d_M_quotient_1 ⟨Nat.le_of_ble_eq_true rfl, Nat.le_of_ble_eq_true rfl⟩)) (fun r hq => ?_)
  subst hq
  refine lv_topi (nm_r (show _ = nI b.log2 from show jm (blen b) = nI b.log2 from by rw [blen_pos hb0, jm_succ]) ?_)
  refine lv_istore (lv' := [(4, .int (nI b.log2)), (0, .long (lN a)), (2, .long (lN b))]) hx hb d_M_quotient_4 hl (by decide) rfl (fun ls hl => ?_)
  refine lv_lload_n hx hb d_M_quotient_6 rfl (lv_at hl 1 rfl) ?_
  refine lv_lstore (lv' := [(5, .long (lN a)), (4, .int (nI b.log2)), (0, .long (lN a)), (2, .long (lN b))]) hx hb d_M_quotient_7 hl (by decide) rfl (fun ls hl => ?_)
  refine lv_lconst (v := lN 0) hx hb d_M_quotient_9 (by decide) ?_
  refine lv_lstore (lv' := [(7, .long (lN 0)), (5, .long (lN a)), (4, .int (nI b.log2)), (0, .long (lN a)), (2, .long (lN b))]) hx hb d_M_quotient_10 hl (by decide) rfl (fun ls hl => ?_)
  refine lv_lload_n hx hb d_M_quotient_12 rfl (lv_at hl 3 rfl) ?_
  refine vp_callSi (va_Run.run (va_runS (As := [.long (lN a)]) (rest := []) ⟨hx, hb, hml, hown, hts⟩ (c_M_degreeOf l a ha) (va_cwS 1 hts (gi_S kw_121 kw_122 kw_2 gi_M_degreeOf) rfl rfl rfl ⟨by decide, by decide, by decide⟩ ⟨Nat.le_of_ble_eq_true rfl, Nat.le_of_ble_eq_true rfl⟩) wq_preS0 rfl rfl hl.1 rfl (lv_room (Nat.le_of_ble_eq_true rfl)) d_M_quotient_13 ⟨Nat.le_of_ble_eq_true rfl, Nat.le_of_ble_eq_true rfl⟩)) (fun r hq2 => ?_)
  subst hq2
  refine lv_istore (lv' := [(9, .int (jm (blen a))), (7, .long (lN 0)), (5, .long (lN a)), (4, .int (nI b.log2)), (0, .long (lN a)), (2, .long (lN b))]) hx hb d_M_quotient_16 hl (by decide) rfl (fun ls hl => ?_)
  have hl := lv_sub (l' := [(0, .long (lN a)), (2, .long (lN b)), (4, .int (nI b.log2)), (5, .long (lN a)), (7, .long (lN 0)), (9, .int (jm (blen a)))]) hl [4, 5, 3, 2, 1, 0] rfl
  exact loop (blen a) a 0 (blen_le ha) (blen_lt a) (by rw [px_m_zero_left, Nat.zero_xor]) (by decide) (Nat.zero_mod _) ls hl
set_option maxHeartbeats 4000000 in
set_option maxRecDepth 100000 in
theorem c_M_commonDivisor (l : Launch) (a b : Nat) (ha : a < 2 ^ 64) (hb1 : b < 2 ^ 64) : Met l y_M_commonDivisor w_M_commonDivisor ({ frames := 4, cells := 0, slots := 0, locals := 91 } : Room) (va_Pc [.long (lN a), .long (lN b)] (fun _ => True)) (vp_Sl (fun r => r = lN (eu 65 a b))) 0 0 (fun _ => False) := by
  refine Met.ofW (cc := b_M_commonDivisor) (maxL := 11) (ret := (Option.some Jvm.ClassFile.FieldType.long)) (by decide) rfl ?_
  intro pg en st mm ar bw me co s₁ B hml hv
  obtain ⟨rfl, -⟩ := hv
  have hx := B.exec
  have hb := B.bytes
  have hr := B.returns
  have hlocks := B.notSynchronized
  have hts0 := atoms_spec (ws := w_M_commonDivisor) B.pre
  have hts : ∀ w ∈ gw, w.before _ st = true := fun w h => hts0 w (List.mem_cons_of_mem _ h)
  have hown : st.vm.findClass R_M = some mm.cls := findClass_of_methodNamed B.named
  have hl := lv_entry ([.long (lN a), .long (lN b)]) (n := 11) (Nat.le_of_ble_eq_true rfl)
  rw [lg_entry_eq]
  generalize (lg_sl ([.long (lN a), .long (lN b)]) ++ List.replicate (11 - (lg_sl ([.long (lN a), .long (lN b)])).length) Slot.unset).toArray = ls at hl ⊢
  have hl : lv_has ls 11 [(0, .long (lN a)), (2, .long (lN b))] := hl
  have loop : ∀ (j k d f : Nat), j + k = 65 → d < 2 ^ 64 → f < 2 ^ 64 → eu j d f = eu 65 a b → ∀ (ls : Array Slot), lv_has ls 11 [(0, .long (lN a)), (2, .long (lN b)), (4, .long (lN d)), (6, .long (lN f)), (8, .int (nI k))] → W pg l en (headSpec w_M_commonDivisor ({ frames := 4, cells := 0, slots := 0, locals := 91 } : Room)).room st mm ([.long (lN a), .long (lN b)] : List Value).toArray bw me co st.heap [] 0 0 (MQ bw (vp_Sl (fun r => r = lN (eu 65 a b))) ([.long (lN a), .long (lN b)] : List Value).toArray st 0 0 (fun _ => False)) (F0 mm 9 ls []) := by
    intro j
    induction j with
    | zero =>
      intro k d f hk hd hf he ls hl
      refine lv_iload hx hb d_M_commonDivisor_9 (lv_at hl 4 rfl) ?_
      refine lv_bipush (v := nI 64) hx hb d_M_commonDivisor_11 (by decide) ?_
      refine lv_icmp_gt (tgt := 46) hx hb d_M_commonDivisor_13 (by decide) (fun hc => ?_) (fun hc => ?_)
      · refine lv_lload hx hb d_M_commonDivisor_46 (lv_at hl 2 rfl) ?_
        refine lv_topl (nm_r (show _ = lN (eu 65 a b) from by rw [← he]; rfl) ?_)
        exact W.lret (v := lN (eu 65 a b)) hx hb hr (fun t ht hW => ⟨lN (eu 65 a b), rfl, rfl, ht⟩) (fun _ h => nomatch h) d_M_commonDivisor_48
      · exact absurd ((nI_ltI (by decide) (by omega)).mpr (by omega)) hc
    | succ j ih =>
      intro k d f hk hd hf he ls hl
      refine lv_iload hx hb d_M_commonDivisor_9 (lv_at hl 4 rfl) ?_
      refine lv_bipush (v := nI 64) hx hb d_M_commonDivisor_11 (by decide) ?_
      refine lv_icmp_gt (tgt := 46) hx hb d_M_commonDivisor_13 (by decide) (fun hc => ?_) (fun hc => ?_)
      · exact absurd ((nI_ltI (by decide) (by omega)).mp hc) (by omega)
      · refine lv_lload hx hb d_M_commonDivisor_16 (lv_at hl 3 rfl) ?_
        refine lv_lconst (v := lN 0) hx hb d_M_commonDivisor_18 (by decide) ?_
        refine W.lcmp hx hb d_M_commonDivisor_19 ?_
        refine lv_if_eq (tgt := 46) hx hb d_M_commonDivisor_20 (by decide) (fun hz => ?_) (fun hz => ?_)
        · have hz : f = 0 := (lN_eqI (b := 0) hf (by decide)).mp (cmq_eq hz)
          refine lv_lload hx hb d_M_commonDivisor_46 (lv_at hl 2 rfl) ?_
          have hed : d = eu 65 a b := by
            rw [← he]
            show d = if f = 0 then d else eu j f (px_r f d)
            rw [if_pos hz]
          refine lv_topl (nm_r (show _ = lN (eu 65 a b) from by rw [hed]) ?_)
          exact W.lret (v := lN (eu 65 a b)) hx hb hr (fun t ht hW => ⟨lN (eu 65 a b), rfl, rfl, ht⟩) (fun _ h => nomatch h) d_M_commonDivisor_48
        · have hz : f ≠ 0 := fun z => cmq_ne hz (by rw [z])
          refine lv_lload hx hb d_M_commonDivisor_23 (lv_at hl 2 rfl) ?_
          refine lv_lload hx hb d_M_commonDivisor_25 (lv_at hl 3 rfl) ?_
          refine vp_callSl (va_Run.run (va_runS (As := [.long (lN d), .long (lN f)]) (rest := []) ⟨hx, hb, hml, hown, hts⟩ (c_M_remainder l d f hd hz hf) (va_cwS 2 hts (gi_S kw_118 kw_119 kw_2 gi_M_remainder) rfl rfl rfl ⟨by decide, by decide, by decide⟩ ⟨Nat.le_of_ble_eq_true rfl, Nat.le_of_ble_eq_true rfl⟩) wq_preS0 rfl rfl hl.1 rfl (lv_room (Nat.le_of_ble_eq_true rfl)) d_M_commonDivisor_27 ⟨Nat.le_of_ble_eq_true rfl, Nat.le_of_ble_eq_true rfl⟩)) (fun r hq => ?_)
          subst hq
          refine lv_lstore (lv' := [(9, .long (lN (px_r f d))), (0, .long (lN a)), (2, .long (lN b)), (4, .long (lN d)), (6, .long (lN f)), (8, .int (nI k))]) hx hb d_M_commonDivisor_30 hl (by decide) rfl (fun ls hl => ?_)
          refine lv_lload hx hb d_M_commonDivisor_32 (lv_at hl 4 rfl) ?_
          refine lv_lstore (lv' := [(4, .long (lN f)), (9, .long (lN (px_r f d))), (0, .long (lN a)), (2, .long (lN b)), (6, .long (lN f)), (8, .int (nI k))]) hx hb d_M_commonDivisor_34 hl (by decide) rfl (fun ls hl => ?_)
          refine lv_lload hx hb d_M_commonDivisor_36 (lv_at hl 1 rfl) ?_
          refine lv_lstore (lv' := [(6, .long (lN (px_r f d))), (4, .long (lN f)), (9, .long (lN (px_r f d))), (0, .long (lN a)), (2, .long (lN b)), (8, .int (nI k))]) hx hb d_M_commonDivisor_38 hl (by decide) rfl (fun ls hl => ?_)
          refine lv_iinc (v := nI (k + 1)) (lv' := [(8, .int (nI (k + 1))), (6, .long (lN (px_r f d))), (4, .long (lN f)), (9, .long (lN (px_r f d))), (0, .long (lN a)), (2, .long (lN b))]) hx hb d_M_commonDivisor_40 hl (k := 5) rfl (nI_1 k) (by decide) rfl (fun ls hl => ?_)
          refine lv_goto (tgt := 9) hx hb d_M_commonDivisor_43 (by decide) ?_
          have hl := lv_sub (l' := [(0, .long (lN a)), (2, .long (lN b)), (4, .long (lN f)), (6, .long (lN (px_r f d))), (8, .int (nI (k + 1)))]) hl [4, 5, 2, 1, 0] rfl
          have hr2 : px_r f d < 2 ^ 64 := by
            have h1 := (px_r_spec hz d).1
            have h2 := px_lg1 hz
            omega
          refine ih (k + 1) f (px_r f d) (by omega) hf hr2 ?_ ls hl
          rw [← he]
          show _ = if f = 0 then d else eu j f (px_r f d)
          rw [if_neg hz]
  refine lv_lload_n hx hb d_M_commonDivisor_0 rfl (lv_at hl 0 rfl) ?_
  refine lv_lstore (lv' := [(4, .long (lN a)), (0, .long (lN a)), (2, .long (lN b))]) hx hb d_M_commonDivisor_1 hl (by decide) rfl (fun ls hl => ?_)
  refine lv_lload_n hx hb d_M_commonDivisor_3 rfl (lv_at hl 2 rfl) ?_
  refine lv_lstore (lv' := [(6, .long (lN b)), (4, .long (lN a)), (0, .long (lN a)), (2, .long (lN b))]) hx hb d_M_commonDivisor_4 hl (by decide) rfl (fun ls hl => ?_)
  refine lv_iconst (v := nI 0) hx hb d_M_commonDivisor_6 (by decide) ?_
  refine lv_istore (lv' := [(8, .int (nI 0)), (6, .long (lN b)), (4, .long (lN a)), (0, .long (lN a)), (2, .long (lN b))]) hx hb d_M_commonDivisor_7 hl (by decide) rfl (fun ls hl => ?_)
  have hl := lv_sub (l' := [(0, .long (lN a)), (2, .long (lN b)), (4, .long (lN a)), (6, .long (lN b)), (8, .int (nI 0))]) hl [3, 4, 2, 1, 0] rfl
  exact loop 65 0 a b rfl ha hb1 rfl ls hl
set_option maxHeartbeats 4000000 in
set_option maxRecDepth 100000 in
theorem c_M_without (l : Launch) (a b : Nat) (ha : a < 2 ^ 64) (ha0 : a ≠ 0) (hb1 : b < 2 ^ 64) (hd : px_dv b a) : Met l y_M_without w_M_without ({ frames := 5, cells := 0, slots := 0, locals := 121 } : Room) (va_Pc [.long (lN a), .long (lN b)] (fun _ => True)) (vp_Sl (fun r => r = lN (wo 64 a b))) 0 0 (fun _ => False) := by
  refine Met.ofW (cc := b_M_without) (maxL := 9) (ret := (Option.some Jvm.ClassFile.FieldType.long)) (by decide) rfl ?_
  intro pg en st mm ar bw me co s₁ B hml hv
  obtain ⟨rfl, -⟩ := hv
  have hx := B.exec
  have hb := B.bytes
  have hr := B.returns
  have hlocks := B.notSynchronized
  have hts0 := atoms_spec (ws := w_M_without) B.pre
  have hts : ∀ w ∈ gw, w.before _ st = true := fun w h => hts0 w (List.mem_cons_of_mem _ h)
  have hown : st.vm.findClass R_M = some mm.cls := findClass_of_methodNamed B.named
  have hl := lv_entry ([.long (lN a), .long (lN b)]) (n := 9) (Nat.le_of_ble_eq_true rfl)
  rw [lg_entry_eq]
  generalize (lg_sl ([.long (lN a), .long (lN b)]) ++ List.replicate (9 - (lg_sl ([.long (lN a), .long (lN b)])).length) Slot.unset).toArray = ls at hl ⊢
  have hl : lv_has ls 9 [(0, .long (lN a)), (2, .long (lN b))] := hl
  have loop : ∀ (j k d f : Nat), j + k = 64 → d < 2 ^ 64 → d ≠ 0 → px_dv f d → wo j d f = wo 64 a b → ∀ (ls : Array Slot), lv_has ls 9 [(0, .long (lN a)), (2, .long (lN b)), (4, .long (lN d)), (6, .long (lN f)), (8, .int (nI k))] → W pg l en (headSpec w_M_without ({ frames := 5, cells := 0, slots := 0, locals := 121 } : Room)).room st mm ([.long (lN a), .long (lN b)] : List Value).toArray bw me co st.heap [] 0 0 (MQ bw (vp_Sl (fun r => r = lN (wo 64 a b))) ([.long (lN a), .long (lN b)] : List Value).toArray st 0 0 (fun _ => False)) (F0 mm 14 ls []) := by
    intro j
    induction j with
    | zero =>
      intro k d f hk hd1 hd0 hf he ls hl
      refine lv_iload hx hb d_M_without_14 (lv_at hl 4 rfl) ?_
      refine lv_bipush (v := nI 64) hx hb d_M_without_16 (by decide) ?_
      refine lv_icmp_ge (tgt := 52) hx hb d_M_without_18 (by decide) (fun hc => ?_) (fun hc => ?_)
      · refine lv_lload hx hb d_M_without_52 (lv_at hl 2 rfl) ?_
        refine lv_topl (nm_r (show _ = lN (wo 64 a b) from by rw [← he]; rfl) ?_)
        exact W.lret (v := lN (wo 64 a b)) hx hb hr (fun t ht hW => ⟨lN (wo 64 a b), rfl, rfl, ht⟩) (fun _ h => nomatch h) d_M_without_54
      · exact absurd ((nI_leI (by decide) (by omega)).mpr (by omega)) hc
    | succ j ih =>
      intro k d f hk hd1 hd0 hf he ls hl
      have hf0 := (px_dv_le hf hd0).1
      have hf1 := px_dv_lt hf hd0 hd1
      refine lv_iload hx hb d_M_without_14 (lv_at hl 4 rfl) ?_
      refine lv_bipush (v := nI 64) hx hb d_M_without_16 (by decide) ?_
      refine lv_icmp_ge (tgt := 52) hx hb d_M_without_18 (by decide) (fun hc => ?_) (fun hc => ?_)
      · exact absurd ((nI_leI (by decide) (by omega)).mp hc) (by omega)
      · refine lv_lload hx hb d_M_without_21 (lv_at hl 3 rfl) ?_
        refine lv_lconst (v := lN 1) hx hb d_M_without_23 (by decide) ?_
        refine W.lcmp hx hb d_M_without_24 ?_
        refine lv_if_eq (tgt := 52) hx hb d_M_without_25 (by decide) (fun hz => ?_) (fun hz => ?_)
        · have hz : f = 1 := (lN_eqI (b := 1) hf1 (by decide)).mp (cmq_eq hz)
          have hed : d = wo 64 a b := by
            rw [← he]
            show d = if f = 1 then d else wo j (qt d f) (eu 65 (qt d f) f)
            rw [if_pos hz]
          refine lv_lload hx hb d_M_without_52 (lv_at hl 2 rfl) ?_
          refine lv_topl (nm_r (show _ = lN (wo 64 a b) from by rw [← hed]) ?_)
          exact W.lret (v := lN (wo 64 a b)) hx hb hr (fun t ht hW => ⟨lN (wo 64 a b), rfl, rfl, ht⟩) (fun _ h => nomatch h) d_M_without_54
        · have hz : f ≠ 1 := fun z => cmq_ne hz (by rw [z])
          have eq := qt_dv hf0 hf
          have hq0 : qt d f ≠ 0 := fun z => hd0 (by rw [eq, z, px_m_zero_left])
          have hq1 : qt d f < 2 ^ 64 := px_dv_lt ⟨f, eq⟩ hd0 hd1
          refine lv_lload hx hb d_M_without_28 (lv_at hl 2 rfl) ?_
          refine lv_lload hx hb d_M_without_30 (lv_at hl 3 rfl) ?_
          refine vp_callSl (va_Run.run (va_runS (As := [.long (lN d), .long (lN f)]) (rest := []) ⟨hx, hb, hml, hown, hts⟩ (c_M_quotient l d f hd1 hf0 hf1) (va_cwS 2 hts (gi_S kw_185 kw_186 kw_2 gi_M_quotient) rfl rfl rfl ⟨by decide, by decide, by decide⟩ ⟨Nat.le_of_ble_eq_true rfl, Nat.le_of_ble_eq_true rfl⟩) wq_preS0 rfl rfl hl.1 rfl (lv_room (Nat.le_of_ble_eq_true rfl)) d_M_without_32 ⟨Nat.le_of_ble_eq_true rfl, Nat.le_of_ble_eq_true rfl⟩)) (fun r hq => ?_)
          subst hq
          refine lv_lstore (lv' := [(4, .long (lN (qt d f))), (0, .long (lN a)), (2, .long (lN b)), (6, .long (lN f)), (8, .int (nI k))]) hx hb d_M_without_35 hl (by decide) rfl (fun ls hl => ?_)
          refine lv_lload hx hb d_M_without_37 (lv_at hl 0 rfl) ?_
          refine lv_lload hx hb d_M_without_39 (lv_at hl 3 rfl) ?_
          refine vp_callSl (va_Run.run (va_runS (As := [.long (lN (qt d f)), .long (lN f)]) (rest := []) ⟨hx, hb, hml, hown, hts⟩ (c_M_commonDivisor l (qt d f) f hq1 hf1) (va_cwS 2 hts (gi_S kw_147 kw_148 kw_2 gi_M_commonDivisor) rfl rfl rfl ⟨by decide, by decide, by decide⟩ ⟨Nat.le_of_ble_eq_true rfl, Nat.le_of_ble_eq_true rfl⟩) wq_preS0 rfl rfl hl.1 rfl (lv_room (Nat.le_of_ble_eq_true rfl)) d_M_without_41 ⟨Nat.le_of_ble_eq_true rfl, Nat.le_of_ble_eq_true rfl⟩)) (fun r hq2 => ?_)
          subst hq2
          refine lv_lstore (lv' := [(6, .long (lN (eu 65 (qt d f) f))), (4, .long (lN (qt d f))), (0, .long (lN a)), (2, .long (lN b)), (8, .int (nI k))]) hx hb d_M_without_44 hl (by decide) rfl (fun ls hl => ?_)
          refine lv_iinc (v := nI (k + 1)) (lv' := [(8, .int (nI (k + 1))), (6, .long (lN (eu 65 (qt d f) f))), (4, .long (lN (qt d f))), (0, .long (lN a)), (2, .long (lN b))]) hx hb d_M_without_46 hl (k := 4) rfl (nI_1 k) (by decide) rfl (fun ls hl => ?_)
          refine lv_goto (tgt := 14) hx hb d_M_without_49 (by decide) ?_
          have hl := lv_sub (l' := [(0, .long (lN a)), (2, .long (lN b)), (4, .long (lN (qt d f))), (6, .long (lN (eu 65 (qt d f) f))), (8, .int (nI (k + 1)))]) hl [3, 4, 2, 1, 0] rfl
          refine ih (k + 1) (qt d f) (eu 65 (qt d f) f) (by omega) hq1 hq0 (eu_ok 64 _ _ hf1).1 ?_ ls hl
          rw [← he]
          show _ = if f = 1 then d else wo j (qt d f) (eu 65 (qt d f) f)
          rw [if_neg hz]
  refine lv_lload_n hx hb d_M_without_0 rfl (lv_at hl 0 rfl) ?_
  refine lv_lstore (lv' := [(4, .long (lN a)), (0, .long (lN a)), (2, .long (lN b))]) hx hb d_M_without_1 hl (by decide) rfl (fun ls hl => ?_)
  refine lv_lload hx hb d_M_without_3 (lv_at hl 0 rfl) ?_
  refine lv_lload_n hx hb d_M_without_5 rfl (lv_at hl 2 rfl) ?_
  refine vp_callSl (va_Run.run (va_runS (As := [.long (lN a), .long (lN b)]) (rest := []) ⟨hx, hb, hml, hown, hts⟩ (c_M_commonDivisor l a b ha hb1) (va_cwS 2 hts (gi_S kw_147 kw_148 kw_2 gi_M_commonDivisor) rfl rfl rfl ⟨by decide, by decide, by decide⟩ ⟨Nat.le_of_ble_eq_true rfl, Nat.le_of_ble_eq_true rfl⟩) wq_preS0 rfl rfl hl.1 rfl (lv_room (Nat.le_of_ble_eq_true rfl)) d_M_without_6 ⟨Nat.le_of_ble_eq_true rfl, Nat.le_of_ble_eq_true rfl⟩)) (fun r hq => ?_)
  subst hq
  have hg : eu 65 a b = b := px_G_same hd (eu_ok 64 a b hb1)
  refine lv_topl (nm_r (show _ = lN b from show lN (eu 65 a b) = lN b from by rw [hg]) ?_)
  refine lv_lstore (lv' := [(6, .long (lN b)), (4, .long (lN a)), (0, .long (lN a)), (2, .long (lN b))]) hx hb d_M_without_9 hl (by decide) rfl (fun ls hl => ?_)
  refine lv_iconst (v := nI 0) hx hb d_M_without_11 (by decide) ?_
  refine lv_istore (lv' := [(8, .int (nI 0)), (6, .long (lN b)), (4, .long (lN a)), (0, .long (lN a)), (2, .long (lN b))]) hx hb d_M_without_12 hl (by decide) rfl (fun ls hl => ?_)
  have hl := lv_sub (l' := [(0, .long (lN a)), (2, .long (lN b)), (4, .long (lN a)), (6, .long (lN b)), (8, .int (nI 0))]) hl [3, 4, 2, 1, 0] rfl
  exact loop 64 0 a b rfl ha ha0 hd rfl ls hl
