/-! contracts of leaves: JDK's counts of zeros, degrees, remainders; laid by a program -/
set_option maxHeartbeats 4000000 in
set_option maxRecDepth 100000 in
theorem c_JI_numberOfLeadingZeros (l : Launch) (v : Nat) (hv0 : v < 2 ^ 32) : Met l y_JI_numberOfLeadingZeros w_JI_numberOfLeadingZeros ({ frames := 0, cells := 0, slots := 0, locals := 0 } : Room) (va_Pc [.int (nI v)] (fun _ => True)) (vp_Si (fun r => r = nI (32 - blen v))) 0 0 (fun _ => False) := by
  refine Met.ofW (cc := b_JI_numberOfLeadingZeros) (maxL := 2) (ret := (Option.some Jvm.ClassFile.FieldType.int)) (by decide) rfl ?_
  intro pg en st mm ar bw me co s₁ B hml hv
  obtain ⟨rfl, -⟩ := hv
  have hx := B.exec
  have hb := B.bytes
  have hr := B.returns
  have hlocks := B.notSynchronized
  have hts0 := atoms_spec (ws := w_JI_numberOfLeadingZeros) B.pre
  have hts : ∀ w ∈ gw, w.before _ st = true := fun w h => hts0 w (List.mem_cons_of_mem _ h)
  have hown : st.vm.findClass R_JI = some mm.cls := findClass_of_methodNamed B.named
  have hl := lv_entry ([.int (nI v)]) (n := 2) (Nat.le_of_ble_eq_true rfl)
  rw [lg_entry_eq]
  generalize (lg_sl ([.int (nI v)]) ++ List.replicate (2 - (lg_sl ([.int (nI v)])).length) Slot.unset).toArray = ls at hl ⊢
  have hl : lv_has ls 2 [(0, .int (nI v))] := hl
  have hbv := blen_le hv0
  have j73 : ∀ (u nn : Nat), u ≠ 0 → u < 2 ^ 2 → nn + 1 = 32 - blen v + blen u → nn ≤ 31 → ∀ (ls : Array Slot), lv_has ls 2 [(0, .int (nI u)), (1, .int (nI nn))] → W pg l en (headSpec w_JI_numberOfLeadingZeros ({ frames := 0, cells := 0, slots := 0, locals := 0 } : Room)).room st mm ([.int (nI v)] : List Value).toArray bw me co st.heap [] 0 0 (MQ bw (vp_Si (fun r => r = nI (32 - blen v))) ([.int (nI v)] : List Value).toArray st 0 0 (fun _ => False)) (F0 mm 73 ls []) := by
    intro u nn h0 h1 h2 h3 ls hl
    refine lv_iload_n hx hb d_JI_numberOfLeadingZeros_73 rfl (lv_at hl 1 rfl) ?_
    refine lv_iload_n hx hb d_JI_numberOfLeadingZeros_74 rfl (lv_at hl 0 rfl) ?_
    refine lv_iconst (v := nI 1) hx hb d_JI_numberOfLeadingZeros_75 (by decide) ?_
    refine lv_iushr (v := nI (u / 2 ^ 1)) hx hb d_JI_numberOfLeadingZeros_76 (pk_ushrN (by omega) (nI 1) 1 (by decide)) ?_
    refine lv_isub hx hb d_JI_numberOfLeadingZeros_77 ?_
    have hu : u = 1 ∨ u = 2 ∨ u = 3 := by omega
    have hb1 : blen 1 = 1 := by decide +kernel
    have hb2 : blen 2 = 2 := by decide +kernel
    have hb3 : blen 3 = 2 := by decide +kernel
    have he : nI nn - nI (u / 2 ^ 1) = nI (32 - blen v) := by
      rcases hu with rfl | rfl | rfl <;> simp only [hb1, hb2, hb3] at h2 <;> rw [pk_sub (by omega)] <;> congr 1 <;> omega
    refine lv_topi (nm_r (show _ = nI (32 - blen v) from he) ?_)
    exact W.iret (v := nI (32 - blen v)) hx hb hr (fun t ht hW => ⟨nI (32 - blen v), rfl, rfl, ht⟩) (fun _ h => nomatch h) d_JI_numberOfLeadingZeros_78
  have j61 : ∀ (u nn : Nat), u ≠ 0 → u < 2 ^ 4 → nn + 1 = 32 - blen v + blen u → nn ≤ 31 → ∀ (ls : Array Slot), lv_has ls 2 [(0, .int (nI u)), (1, .int (nI nn))] → W pg l en (headSpec w_JI_numberOfLeadingZeros ({ frames := 0, cells := 0, slots := 0, locals := 0 } : Room)).room st mm ([.int (nI v)] : List Value).toArray bw me co st.heap [] 0 0 (MQ bw (vp_Si (fun r => r = nI (32 - blen v))) ([.int (nI v)] : List Value).toArray st 0 0 (fun _ => False)) (F0 mm 61 ls []) := by
    intro u nn h0 h1 h2 h3 ls hl
    refine lv_iload_n hx hb d_JI_numberOfLeadingZeros_61 rfl (lv_at hl 0 rfl) ?_
    refine lv_iconst (v := nI 4) hx hb d_JI_numberOfLeadingZeros_62 (by decide) ?_
    refine lv_icmp_lt (tgt := 73) hx hb d_JI_numberOfLeadingZeros_63 (by decide) (fun hc => ?_) (fun hc => ?_)
    · have hc := (nI_ltI (by omega) (by decide)).mp hc
      exact j73 u nn h0 (by omega) h2 h3 ls hl
    · have hc : 2 ^ 2 ≤ u := Nat.le_of_not_lt (fun z => hc ((nI_ltI (by omega) (by decide)).mpr z))
      have hd := blen_div (k := 2) hc
      have hbu : u / 2 ^ 2 ≠ 0 := fun z => by have := Nat.div_pos hc (Nat.two_pow_pos 2); omega
      have hbp := blen_pos hbu
      refine lv_iinc (v := nI (nn - 2)) (lv' := [(1, .int (nI (nn - 2))), (0, .int (nI u))]) hx hb d_JI_numberOfLeadingZeros_66 hl (k := 1) rfl (nI_dec (b := 2) (by omega)) (by decide) rfl (fun ls hl => ?_)
      refine lv_iload_n hx hb d_JI_numberOfLeadingZeros_69 rfl (lv_at hl 1 rfl) ?_
      refine lv_iconst (v := nI 2) hx hb d_JI_numberOfLeadingZeros_70 (by decide) ?_
      refine lv_iushr (v := nI (u / 2 ^ 2)) hx hb d_JI_numberOfLeadingZeros_71 (pk_ushrN (by omega) (nI 2) 2 (by decide)) ?_
      refine lv_istore_n (lv' := [(0, .int (nI (u / 2 ^ 2))), (1, .int (nI (nn - 2)))]) hx hb d_JI_numberOfLeadingZeros_72 rfl hl (by decide) rfl (fun ls hl => ?_)
      exact j73 (u / 2 ^ 2) (nn - 2) hbu (by omega) (by omega) (by omega) ls hl
  have j48 : ∀ (u nn : Nat), u ≠ 0 → u < 2 ^ 8 → nn + 1 = 32 - blen v + blen u → nn ≤ 31 → ∀ (ls : Array Slot), lv_has ls 2 [(0, .int (nI u)), (1, .int (nI nn))] → W pg l en (headSpec w_JI_numberOfLeadingZeros ({ frames := 0, cells := 0, slots := 0, locals := 0 } : Room)).room st mm ([.int (nI v)] : List Value).toArray bw me co st.heap [] 0 0 (MQ bw (vp_Si (fun r => r = nI (32 - blen v))) ([.int (nI v)] : List Value).toArray st 0 0 (fun _ => False)) (F0 mm 48 ls []) := by
    intro u nn h0 h1 h2 h3 ls hl
    refine lv_iload_n hx hb d_JI_numberOfLeadingZeros_48 rfl (lv_at hl 0 rfl) ?_
    refine lv_bipush (v := nI 16) hx hb d_JI_numberOfLeadingZeros_49 (by decide) ?_
    refine lv_icmp_lt (tgt := 61) hx hb d_JI_numberOfLeadingZeros_51 (by decide) (fun hc => ?_) (fun hc => ?_)
    · have hc := (nI_ltI (by omega) (by decide)).mp hc
      exact j61 u nn h0 (by omega) h2 h3 ls hl
    · have hc : 2 ^ 4 ≤ u := Nat.le_of_not_lt (fun z => hc ((nI_ltI (by omega) (by decide)).mpr z))
      have hd := blen_div (k := 4) hc
      have hbu : u / 2 ^ 4 ≠ 0 := fun z => by have := Nat.div_pos hc (Nat.two_pow_pos 4); omega
      have hbp := blen_pos hbu
      refine lv_iinc (v := nI (nn - 4)) (lv' := [(1, .int (nI (nn - 4))), (0, .int (nI u))]) hx hb d_JI_numberOfLeadingZeros_54 hl (k := 1) rfl (nI_dec (b := 4) (by omega)) (by decide) rfl (fun ls hl => ?_)
      refine lv_iload_n hx hb d_JI_numberOfLeadingZeros_57 rfl (lv_at hl 1 rfl) ?_
      refine lv_iconst (v := nI 4) hx hb d_JI_numberOfLeadingZeros_58 (by decide) ?_
      refine lv_iushr (v := nI (u / 2 ^ 4)) hx hb d_JI_numberOfLeadingZeros_59 (pk_ushrN (by omega) (nI 4) 4 (by decide)) ?_
      refine lv_istore_n (lv' := [(0, .int (nI (u / 2 ^ 4))), (1, .int (nI (nn - 4)))]) hx hb d_JI_numberOfLeadingZeros_60 rfl hl (by decide) rfl (fun ls hl => ?_)
      exact j61 (u / 2 ^ 4) (nn - 4) hbu (by omega) (by omega) (by omega) ls hl
  have j33 : ∀ (u nn : Nat), u ≠ 0 → u < 2 ^ 16 → nn + 1 = 32 - blen v + blen u → nn ≤ 31 → ∀ (ls : Array Slot), lv_has ls 2 [(0, .int (nI u)), (1, .int (nI nn))] → W pg l en (headSpec w_JI_numberOfLeadingZeros ({ frames := 0, cells := 0, slots := 0, locals := 0 } : Room)).room st mm ([.int (nI v)] : List Value).toArray bw me co st.heap [] 0 0 (MQ bw (vp_Si (fun r => r = nI (32 - blen v))) ([.int (nI v)] : List Value).toArray st 0 0 (fun _ => False)) (F0 mm 33 ls []) := by
    intro u nn h0 h1 h2 h3 ls hl
    refine lv_iload_n hx hb d_JI_numberOfLeadingZeros_33 rfl (lv_at hl 0 rfl) ?_
    refine lv_sipush (v := nI 256) hx hb d_JI_numberOfLeadingZeros_34 (by decide) ?_
    refine lv_icmp_lt (tgt := 48) hx hb d_JI_numberOfLeadingZeros_37 (by decide) (fun hc => ?_) (fun hc => ?_)
    · have hc := (nI_ltI (by omega) (by decide)).mp hc
      exact j48 u nn h0 (by omega) h2 h3 ls hl
    · have hc : 2 ^ 8 ≤ u := Nat.le_of_not_lt (fun z => hc ((nI_ltI (by omega) (by decide)).mpr z))
      have hd := blen_div (k := 8) hc
      have hbu : u / 2 ^ 8 ≠ 0 := fun z => by have := Nat.div_pos hc (Nat.two_pow_pos 8); omega
      have hbp := blen_pos hbu
      refine lv_iinc (v := nI (nn - 8)) (lv' := [(1, .int (nI (nn - 8))), (0, .int (nI u))]) hx hb d_JI_numberOfLeadingZeros_40 hl (k := 1) rfl (nI_dec (b := 8) (by omega)) (by decide) rfl (fun ls hl => ?_)
      refine lv_iload_n hx hb d_JI_numberOfLeadingZeros_43 rfl (lv_at hl 1 rfl) ?_
      refine lv_bipush (v := nI 8) hx hb d_JI_numberOfLeadingZeros_44 (by decide) ?_
      refine lv_iushr (v := nI (u / 2 ^ 8)) hx hb d_JI_numberOfLeadingZeros_46 (pk_ushrN (by omega) (nI 8) 8 (by decide)) ?_
      refine lv_istore_n (lv' := [(0, .int (nI (u / 2 ^ 8))), (1, .int (nI (nn - 8)))]) hx hb d_JI_numberOfLeadingZeros_47 rfl hl (by decide) rfl (fun ls hl => ?_)
      exact j48 (u / 2 ^ 8) (nn - 8) hbu (by omega) (by omega) (by omega) ls hl
  refine lv_iload_n hx hb d_JI_numberOfLeadingZeros_0 rfl (lv_at hl 0 rfl) ?_
  refine lv_if_gt (tgt := 15) hx hb d_JI_numberOfLeadingZeros_1 (by decide) (fun hc => ?_) (fun hc => ?_)
  · have hg := (nI_gt0 hv0).mp hc
    obtain ⟨u, hu⟩ : ∃ u, u = v := ⟨v, rfl⟩
    obtain ⟨nn, hnn⟩ : ∃ nn : Nat, nn = 31 := ⟨31, rfl⟩
    refine lv_bipush (v := nI 31) hx hb d_JI_numberOfLeadingZeros_15 (by decide) ?_
    refine lv_istore_n (lv' := [(1, .int (nI 31)), (0, .int (nI v))]) hx hb d_JI_numberOfLeadingZeros_17 rfl hl (by decide) rfl (fun ls hl => ?_)
    have hl : lv_has ls 2 [(1, .int (nI nn)), (0, .int (nI u))] := by rw [hu, hnn]; exact hl
    have hl := lv_sub (l' := [(0, .int (nI u)), (1, .int (nI nn))]) hl [1, 0] rfl
    refine lv_iload_n hx hb d_JI_numberOfLeadingZeros_18 rfl (lv_at hl 0 rfl) ?_
    refine lv_ldcw (v := nI 65536) hx hb hown (hts _ kw_130) d_JI_numberOfLeadingZeros_19 ?_
    refine lv_icmp_lt (tgt := 33) hx hb d_JI_numberOfLeadingZeros_22 (by decide) (fun hc => ?_) (fun hc => ?_)
    · have hc := (nI_ltI (by omega) (by decide)).mp hc
      exact j33 u nn (by omega) (by omega) (by rw [hu, hnn]; omega) (by omega) ls hl
    · have hc : 2 ^ 16 ≤ u := Nat.le_of_not_lt (fun z => hc ((nI_ltI (by omega) (by decide)).mpr z))
      have h2 : nn + 1 = 32 - blen v + blen u := by rw [hu, hnn]; omega
      have hd := blen_div (k := 16) hc
      have hbu : u / 2 ^ 16 ≠ 0 := fun z => by have := Nat.div_pos hc (Nat.two_pow_pos 16); omega
      have hbp := blen_pos hbu
      refine lv_iinc (v := nI (nn - 16)) (lv' := [(1, .int (nI (nn - 16))), (0, .int (nI u))]) hx hb d_JI_numberOfLeadingZeros_25 hl (k := 1) rfl (nI_dec (b := 16) (by omega)) (by decide) rfl (fun ls hl => ?_)
      refine lv_iload_n hx hb d_JI_numberOfLeadingZeros_28 rfl (lv_at hl 1 rfl) ?_
      refine lv_bipush (v := nI 16) hx hb d_JI_numberOfLeadingZeros_29 (by decide) ?_
      refine lv_iushr (v := nI (u / 2 ^ 16)) hx hb d_JI_numberOfLeadingZeros_31 (pk_ushrN (by omega) (nI 16) 16 (by decide)) ?_
      refine lv_istore_n (lv' := [(0, .int (nI (u / 2 ^ 16))), (1, .int (nI (nn - 16)))]) hx hb d_JI_numberOfLeadingZeros_32 rfl hl (by decide) rfl (fun ls hl => ?_)
      exact j33 (u / 2 ^ 16) (nn - 16) hbu (by omega) (by omega) (by omega) ls hl
  · have hg : v = 0 ∨ 2 ^ 31 ≤ v := Classical.byContradiction fun hn => hc ((nI_gt0 hv0).mpr (by omega))
    refine lv_iload_n hx hb d_JI_numberOfLeadingZeros_4 rfl (lv_at hl 0 rfl) ?_
    refine lv_if_ne (tgt := 13) hx hb d_JI_numberOfLeadingZeros_5 (by decide) (fun hc2 => ?_) (fun hc2 => ?_)
    · have hz : v ≠ 0 := fun z => hc2 ((nI_eq0 hv0).mpr z)
      have hd := blen_div (v := v) (k := 31) (by omega)
      have hb1 : v / 2 ^ 31 ≠ 0 := fun z => by have := Nat.div_pos (show 2 ^ 31 ≤ v by omega) (Nat.two_pow_pos 31); omega
      have hbp := blen_pos hb1
      refine lv_iconst (v := nI 0) hx hb d_JI_numberOfLeadingZeros_13 (by decide) ?_
      refine lv_topi (nm_r (show _ = nI (32 - blen v) from show nI 0 = nI (32 - blen v) from by congr 1; omega) ?_)
      exact W.iret (v := nI (32 - blen v)) hx hb hr (fun t ht hW => ⟨nI (32 - blen v), rfl, rfl, ht⟩) (fun _ h => nomatch h) d_JI_numberOfLeadingZeros_14
    · have hz : v = 0 := (nI_eq0 hv0).mp hc2
      refine lv_bipush (v := nI 32) hx hb d_JI_numberOfLeadingZeros_8 (by decide) ?_
      refine lv_goto (tgt := 14) hx hb d_JI_numberOfLeadingZeros_10 (by decide) ?_
      refine lv_topi (nm_r (show _ = nI (32 - blen v) from show nI 32 = nI (32 - blen v) from by rw [hz, blen_0]) ?_)
      exact W.iret (v := nI (32 - blen v)) hx hb hr (fun t ht hW => ⟨nI (32 - blen v), rfl, rfl, ht⟩) (fun _ h => nomatch h) d_JI_numberOfLeadingZeros_14
set_option maxHeartbeats 4000000 in
set_option maxRecDepth 100000 in
theorem c_JL_numberOfLeadingZeros (l : Launch) (v : Nat) (hv0 : v < 2 ^ 64) : Met l y_JL_numberOfLeadingZeros w_JL_numberOfLeadingZeros ({ frames := 1, cells := 0, slots := 0, locals := 21 } : Room) (va_Pc [.long (lN v)] (fun _ => True)) (vp_Si (fun r => r = nI (64 - blen v))) 0 0 (fun _ => False) := by
  refine Met.ofW (cc := b_JL_numberOfLeadingZeros) (maxL := 3) (ret := (Option.some Jvm.ClassFile.FieldType.int)) (by decide) rfl ?_
  intro pg en st mm ar bw me co s₁ B hml hv
  obtain ⟨rfl, -⟩ := hv
  have hx := B.exec
  have hb := B.bytes
  have hr := B.returns
  have hlocks := B.notSynchronized
  have hts0 := atoms_spec (ws := w_JL_numberOfLeadingZeros) B.pre
  have hts : ∀ w ∈ gw, w.before _ st = true := fun w h => hts0 w (List.mem_cons_of_mem _ h)
  have hown : st.vm.findClass R_JL = some mm.cls := findClass_of_methodNamed B.named
  have hl := lv_entry ([.long (lN v)]) (n := 3) (Nat.le_of_ble_eq_true rfl)
  rw [lg_entry_eq]
  generalize (lg_sl ([.long (lN v)]) ++ List.replicate (3 - (lg_sl ([.long (lN v)])).length) Slot.unset).toArray = ls at hl ⊢
  have hl : lv_has ls 3 [(0, .long (lN v))] := hl
  have hbv := blen_le hv0
  refine lv_lload_n hx hb d_JL_numberOfLeadingZeros_0 rfl (lv_at hl 0 rfl) ?_
  refine lv_bipush (v := nI 32) hx hb d_JL_numberOfLeadingZeros_1 (by decide) ?_
  refine lv_lushr (v := lN (v / 2 ^ 32)) hx hb d_JL_numberOfLeadingZeros_3 (wb_shr hv0 (by decide)) ?_
  refine lv_l2i (v := nI (v / 2 ^ 32)) hx hb d_JL_numberOfLeadingZeros_4 (lN_i _) ?_
  refine lv_istore_n (lv' := [(2, .int (nI (v / 2 ^ 32))), (0, .long (lN v))]) hx hb d_JL_numberOfLeadingZeros_5 rfl hl (by decide) rfl (fun ls hl => ?_)
  refine lv_iload_n hx hb d_JL_numberOfLeadingZeros_6 rfl (lv_at hl 0 rfl) ?_
  refine lv_if_ne (tgt := 21) hx hb d_JL_numberOfLeadingZeros_7 (by decide) (fun hc => ?_) (fun hc => ?_)
  · have hz : v / 2 ^ 32 ≠ 0 := fun z => hc ((nI_eq0 (by omega)).mpr z)
    have hd := blen_div (v := v) (k := 32) (by omega)
    refine lv_iload_n hx hb d_JL_numberOfLeadingZeros_21 rfl (lv_at hl 0 rfl) ?_
    refine vp_callSi (va_Run.run (va_runS (As := [.int (nI (v / 2 ^ 32))]) (rest := []) ⟨hx, hb, hml, hown, hts⟩ (c_JI_numberOfLeadingZeros l (v / 2 ^ 32) (by omega)) (va_cwS 1 hts (gi_S kw_127 kw_128 kw_7 gi_JI_numberOfLeadingZeros) rfl rfl rfl ⟨by decide, by decide, by decide⟩ ⟨Nat.le_of_ble_eq_true rfl, Nat.le_of_ble_eq_true rfl⟩) wq_preS0 rfl rfl hl.1 rfl (lv_room (Nat.le_of_ble_eq_true rfl)) d_JL_numberOfLeadingZeros_22 ⟨Nat.le_of_ble_eq_true rfl, Nat.le_of_ble_eq_true rfl⟩)) (fun r hq => ?_)
    subst hq
    refine lv_topi (nm_r (show _ = nI (64 - blen v) from show nI (32 - blen (v / 2 ^ 32)) = nI (64 - blen v) from by congr 1; omega) ?_)
    exact W.iret (v := nI (64 - blen v)) hx hb hr (fun t ht hW => ⟨nI (64 - blen v), rfl, rfl, ht⟩) (fun _ h => nomatch h) d_JL_numberOfLeadingZeros_25
  · have hz : v < 2 ^ 32 := by
      have := (nI_eq0 (by omega)).mp hc
      omega
    refine lv_bipush (v := nI 32) hx hb d_JL_numberOfLeadingZeros_10 (by decide) ?_
    refine lv_lload_n hx hb d_JL_numberOfLeadingZeros_12 rfl (lv_at hl 1 rfl) ?_
    refine lv_l2i (v := nI v) hx hb d_JL_numberOfLeadingZeros_13 (lN_i _) ?_
    refine vp_callSi (va_Run.run (va_runS (As := [.int (nI v)]) (rest := [.int (nI 32)]) ⟨hx, hb, hml, hown, hts⟩ (c_JI_numberOfLeadingZeros l v hz) (va_cwS 1 hts (gi_S kw_127 kw_128 kw_7 gi_JI_numberOfLeadingZeros) rfl rfl rfl ⟨by decide, by decide, by decide⟩ ⟨Nat.le_of_ble_eq_true rfl, Nat.le_of_ble_eq_true rfl⟩) wq_preS0 rfl rfl hl.1 rfl (lv_room (Nat.le_of_ble_eq_true rfl)) d_JL_numberOfLeadingZeros_14 ⟨Nat.le_of_ble_eq_true rfl, Nat.le_of_ble_eq_true rfl⟩)) (fun r hq => ?_)
    subst hq
    refine lv_iadd hx hb d_JL_numberOfLeadingZeros_17 ?_
    have hb2 := blen_le hz
    refine lv_topi (nm_r (show _ = nI (64 - blen v) from show nI 32 + nI (32 - blen v) = nI (64 - blen v) from by rw [nI_add]; congr 1; omega) ?_)
    refine lv_goto (tgt := 25) hx hb d_JL_numberOfLeadingZeros_18 (by decide) ?_
    exact W.iret (v := nI (64 - blen v)) hx hb hr (fun t ht hW => ⟨nI (64 - blen v), rfl, rfl, ht⟩) (fun _ h => nomatch h) d_JL_numberOfLeadingZeros_25
set_option maxHeartbeats 4000000 in
set_option maxRecDepth 100000 in
theorem c_M_degreeOf (l : Launch) (v : Nat) (hv0 : v < 2 ^ 64) : Met l y_M_degreeOf w_M_degreeOf ({ frames := 2, cells := 0, slots := 0, locals := 43 } : Room) (va_Pc [.long (lN v)] (fun _ => True)) (vp_Si (fun r => r = jm (blen v))) 0 0 (fun _ => False) := by
  refine Met.ofW (cc := b_M_degreeOf) (maxL := 2) (ret := (Option.some Jvm.ClassFile.FieldType.int)) (by decide) rfl ?_
  intro pg en st mm ar bw me co s₁ B hml hv
  obtain ⟨rfl, -⟩ := hv
  have hx := B.exec
  have hb := B.bytes
  have hr := B.returns
  have hlocks := B.notSynchronized
  have hts0 := atoms_spec (ws := w_M_degreeOf) B.pre
  have hts : ∀ w ∈ gw, w.before _ st = true := fun w h => hts0 w (List.mem_cons_of_mem _ h)
  have hown : st.vm.findClass R_M = some mm.cls := findClass_of_methodNamed B.named
  have hl := lv_entry ([.long (lN v)]) (n := 2) (Nat.le_of_ble_eq_true rfl)
  rw [lg_entry_eq]
  generalize (lg_sl ([.long (lN v)]) ++ List.replicate (2 - (lg_sl ([.long (lN v)])).length) Slot.unset).toArray = ls at hl ⊢
  have hl : lv_has ls 2 [(0, .long (lN v))] := hl
  refine lv_bipush (v := nI 63) hx hb d_M_degreeOf_0 (by decide) ?_
  refine lv_lload_n hx hb d_M_degreeOf_2 rfl (lv_at hl 0 rfl) ?_
  refine vp_callSi (va_Run.run (va_runS (As := [.long (lN v)]) (rest := [.int (nI 63)]) ⟨hx, hb, hml, hown, hts⟩ (c_JL_numberOfLeadingZeros l v hv0) (va_cwS 1 hts (gi_S kw_124 kw_125 kw_6 gi_JL_numberOfLeadingZeros) rfl rfl rfl ⟨by decide, by decide, by decide⟩ ⟨Nat.le_of_ble_eq_true rfl, Nat.le_of_ble_eq_true rfl⟩) wq_preS0 rfl rfl hl.1 rfl (lv_room (Nat.le_of_ble_eq_true rfl)) d_M_degreeOf_3 ⟨Nat.le_of_ble_eq_true rfl, Nat.le_of_ble_eq_true rfl⟩)) (fun r hq => ?_)
  subst hq
  refine lv_isub hx hb d_M_degreeOf_6 ?_
  refine lv_topi (nm_r (show _ = jm (blen v) from sub_jm (blen_le hv0)) ?_)
  exact W.iret (v := jm (blen v)) hx hb hr (fun t ht hW => ⟨jm (blen v), rfl, rfl, ht⟩) (fun _ h => nomatch h) d_M_degreeOf_7
set_option maxHeartbeats 4000000 in
set_option maxRecDepth 100000 in
theorem c_M_remainder (l : Launch) (a b : Nat) (ha : a < 2 ^ 64) (hb0 : b ≠ 0) (hb1 : b < 2 ^ 64) : Met l y_M_remainder w_M_remainder ({ frames := 3, cells := 0, slots := 0, locals := 64 } : Room) (va_Pc [.long (lN a), .long (lN b)] (fun _ => True)) (vp_Sl (fun r => r = lN (px_r b a))) 0 0 (fun _ => False) := by
  refine Met.ofW (cc := b_M_remainder) (maxL := 8) (ret := (Option.some Jvm.ClassFile.FieldType.long)) (by decide) rfl ?_
  intro pg en st mm ar bw me co s₁ B hml hv
  obtain ⟨rfl, -⟩ := hv
  have hx := B.exec
  have hb := B.bytes
  have hr := B.returns
  have hlocks := B.notSynchronized
  have hts0 := atoms_spec (ws := w_M_remainder) B.pre
  have hts : ∀ w ∈ gw, w.before _ st = true := fun w h => hts0 w (List.mem_cons_of_mem _ h)
  have hown : st.vm.findClass R_M = some mm.cls := findClass_of_methodNamed B.named
  have hl := lv_entry ([.long (lN a), .long (lN b)]) (n := 8) (Nat.le_of_ble_eq_true rfl)
  rw [lg_entry_eq]
  generalize (lg_sl ([.long (lN a), .long (lN b)]) ++ List.replicate (8 - (lg_sl ([.long (lN a), .long (lN b)])).length) Slot.unset).toArray = ls at hl ⊢
  have hl : lv_has ls 8 [(0, .long (lN a)), (2, .long (lN b))] := hl
  have hlo : b.log2 < 64 := (Nat.log2_lt hb0).2 hb1
  have loop : ∀ (K v : Nat), K ≤ 64 → v < 2 ^ K → px_cg b v a → ∀ (ls : Array Slot), lv_has ls 8 [(0, .long (lN a)), (2, .long (lN b)), (4, .int (nI b.log2)), (5, .long (lN v)), (7, .int (jm K))] → W pg l en (headSpec w_M_remainder ({ frames := 3, cells := 0, slots := 0, locals := 64 } : Room)).room st mm ([.long (lN a), .long (lN b)] : List Value).toArray bw me co st.heap [] 0 0 (MQ bw (vp_Sl (fun r => r = lN (px_r b a))) ([.long (lN a), .long (lN b)] : List Value).toArray st 0 0 (fun _ => False)) (F0 mm 15 ls []) := by
    intro K
    induction K with
    | zero =>
      intro v hK hv hc ls hl
      refine lv_iload hx hb d_M_remainder_15 (lv_at hl 4 rfl) ?_
      refine lv_iload hx hb d_M_remainder_17 (lv_at hl 2 rfl) ?_
      refine lv_icmp_lt (tgt := 52) hx hb d_M_remainder_19 (by decide) (fun hj => ?_) (fun hj => ?_)
      · refine lv_lload hx hb d_M_remainder_52 (lv_at hl 3 rfl) ?_
        have he : v = px_r b a := px_uniq (n := b.log2) (px_lg1 hb0) (Nat.lt_of_lt_of_le hv (Nat.pow_le_pow_right (by decide) (by omega))) (px_r_spec hb0 a).1 (px_cg_trans hc (px_cg_symm (px_r_spec hb0 a).2))
        rw [he]
        exact W.lret (v := lN (px_r b a)) hx hb hr (fun t ht hW => ⟨lN (px_r b a), rfl, rfl, ht⟩) (fun _ h => nomatch h) d_M_remainder_54
      · exact absurd ((jm_lt (by omega) (by omega)).mpr (by omega)) hj
    | succ K ih =>
      intro v hK hv hc ls hl
      refine lv_iload hx hb d_M_remainder_15 (lv_at hl 4 rfl) ?_
      refine lv_iload hx hb d_M_remainder_17 (lv_at hl 2 rfl) ?_
      refine lv_icmp_lt (tgt := 52) hx hb d_M_remainder_19 (by decide) (fun hj => ?_) (fun hj => ?_)
      · have hj := (jm_lt (by omega) (by omega)).mp hj
        refine lv_lload hx hb d_M_remainder_52 (lv_at hl 3 rfl) ?_
        have he : v = px_r b a := px_uniq (n := b.log2) (px_lg1 hb0) (Nat.lt_of_lt_of_le hv (Nat.pow_le_pow_right (by decide) (by omega))) (px_r_spec hb0 a).1 (px_cg_trans hc (px_cg_symm (px_r_spec hb0 a).2))
        rw [he]
        exact W.lret (v := lN (px_r b a)) hx hb hr (fun t ht hW => ⟨lN (px_r b a), rfl, rfl, ht⟩) (fun _ h => nomatch h) d_M_remainder_54
      · have hj : b.log2 ≤ K := Classical.byContradiction fun hn => hj ((jm_lt (by omega) (by omega)).mpr (by omega))
        have hv64 : v < 2 ^ 64 := Nat.lt_of_lt_of_le hv (Nat.pow_le_pow_right (by decide) (by omega))
        have hl : lv_has ls 8 [(0, .long (lN a)), (2, .long (lN b)), (4, .int (nI b.log2)), (5, .long (lN v)), (7, .int (nI K))] := by rw [jm_succ] at hl; exact hl
        have ht := dv_turn (px_lg1 hb0) (px_lg2 b) hj hv
        refine lv_lload hx hb d_M_remainder_22 (lv_at hl 3 rfl) ?_
        refine lv_iload hx hb d_M_remainder_24 (lv_at hl 4 rfl) ?_
        refine lv_lushr (v := lN (v / 2 ^ K)) hx hb d_M_remainder_26 (wb_shr hv64 (by omega)) ?_
        refine lv_lconst (v := lN 1) hx hb d_M_remainder_27 (by decide) ?_
        refine lv_land hx hb d_M_remainder_28 ?_
        refine lv_topl (nm_r (show _ = lN (v / 2 ^ K % 2) from g1_and (show v / 2 ^ K < 2 ^ 64 from Nat.lt_of_le_of_lt (Nat.div_le_self _ _) hv64)) ?_)
        refine lv_lconst (v := lN 1) hx hb d_M_remainder_29 (by decide) ?_
        refine W.lcmp hx hb d_M_remainder_30 ?_
        refine lv_if_ne (tgt := 46) hx hb d_M_remainder_31 (by decide) (fun hbit => ?_) (fun hbit => ?_)
        · have hbit : ¬ v / 2 ^ K % 2 = 1 := fun z => hbit ((lg_cmp_eq _ _).mpr (by rw [z]))
          rw [if_neg hbit] at ht
          refine lv_iinc (v := jm K) (lv' := [(7, .int (jm K)), (0, .long (lN a)), (2, .long (lN b)), (4, .int (nI b.log2)), (5, .long (lN v))]) hx hb d_M_remainder_46 hl (k := 4) rfl (jm_dec K) (by decide) rfl (fun ls hl => ?_)
          refine lv_goto (tgt := 15) hx hb d_M_remainder_49 (by decide) ?_
          have hl := lv_sub (l' := [(0, .long (lN a)), (2, .long (lN b)), (4, .int (nI b.log2)), (5, .long (lN v)), (7, .int (jm K))]) hl [1, 2, 3, 4, 0] rfl
          exact ih v (by omega) ht.1 (px_cg_trans ht.2 hc) ls hl
        · have hbit : v / 2 ^ K % 2 = 1 := lN_b1.mp ((lg_cmp_eq _ _).mp hbit)
          rw [if_pos hbit] at ht
          refine lv_lload hx hb d_M_remainder_34 (lv_at hl 3 rfl) ?_
          refine lv_lload_n hx hb d_M_remainder_36 rfl (lv_at hl 1 rfl) ?_
          refine lv_iload hx hb d_M_remainder_37 (lv_at hl 4 rfl) ?_
          refine lv_iload hx hb d_M_remainder_39 (lv_at hl 2 rfl) ?_
          refine lv_isub hx hb d_M_remainder_41 ?_
          refine lv_topi (nm_r (show _ = nI (K - b.log2) from pk_sub hj) ?_)
          refine lv_lshl (v := lN (b * 2 ^ (K - b.log2))) hx hb d_M_remainder_42 (wb_shl b (by omega)) ?_
          refine lv_lxor hx hb d_M_remainder_43 ?_
          refine lv_topl (nm_r (show _ = lN (v ^^^ b * 2 ^ (K - b.log2)) from lN_xor _ _) ?_)
          refine lv_lstore (lv' := [(5, .long (lN (v ^^^ b * 2 ^ (K - b.log2)))), (0, .long (lN a)), (2, .long (lN b)), (4, .int (nI b.log2)), (7, .int (nI K))]) hx hb d_M_remainder_44 hl (by decide) rfl (fun ls hl => ?_)
          refine lv_iinc (v := jm K) (lv' := [(7, .int (jm K)), (5, .long (lN (v ^^^ b * 2 ^ (K - b.log2)))), (0, .long (lN a)), (2, .long (lN b)), (4, .int (nI b.log2))]) hx hb d_M_remainder_46 hl (k := 4) rfl (jm_dec K) (by decide) rfl (fun ls hl => ?_)
          refine lv_goto (tgt := 15) hx hb d_M_remainder_49 (by decide) ?_
          have hl := lv_sub (l' := [(0, .long (lN a)), (2, .long (lN b)), (4, .int (nI b.log2)), (5, .long (lN (v ^^^ b * 2 ^ (K - b.log2)))), (7, .int (jm K))]) hl [2, 3, 4, 1, 0] rfl
          exact ih (v ^^^ b * 2 ^ (K - b.log2)) (by omega) ht.1 (px_cg_trans ht.2 hc) ls hl
  refine lv_lload_n hx hb d_M_remainder_0 rfl (lv_at hl 1 rfl) ?_
  refine vp_callSi (va_Run.run (va_runS (As := [.long (lN b)]) (rest := []) ⟨hx, hb, hml, hown, hts⟩ (c_M_degreeOf l b hb1) (va_cwS 1 hts (gi_S kw_121 kw_122 kw_2 gi_M_degreeOf) rfl rfl rfl ⟨by decide, by decide, by decide⟩ ⟨Nat.le_of_ble_eq_true rfl, Nat.le_of_ble_eq_true rfl⟩) wq_preS0 rfl rfl hl.1 rfl (lv_room (Nat.le_of_ble_eq_true rfl)) d_M_remainder_1 ⟨Nat.le_of_ble_eq_true rfl, Nat.le_of_ble_eq_true rfl⟩)) (fun r hq => ?_)
  subst hq
  refine lv_topi (nm_r (show _ = nI b.log2 from show jm (blen b) = nI b.log2 from by rw [blen_pos hb0, jm_succ]) ?_)
  refine lv_istore (lv' := [(4, .int (nI b.log2)), (0, .long (lN a)), (2, .long (lN b))]) hx hb d_M_remainder_4 hl (by decide) rfl (fun ls hl => ?_)
  refine lv_lload_n hx hb d_M_remainder_6 rfl (lv_at hl 1 rfl) ?_
  refine lv_lstore (lv' := [(5, .long (lN a)), (4, .int (nI b.log2)), (0, .long (lN a)), (2, .long (lN b))]) hx hb d_M_remainder_7 hl (by decide) rfl (fun ls hl => ?_)
  refine lv_lload_n hx hb d_M_remainder_9 rfl (lv_at hl 2 rfl) ?_
  refine vp_callSi (va_Run.run (va_runS (As := [.long (lN a)]) (rest := []) ⟨hx, hb, hml, hown, hts⟩ (c_M_degreeOf l a ha) (va_cwS 1 hts (gi_S kw_121 kw_122 kw_2 gi_M_degreeOf) rfl rfl rfl ⟨by decide, by decide, by decide⟩ ⟨Nat.le_of_ble_eq_true rfl, Nat.le_of_ble_eq_true rfl⟩) wq_preS0 rfl rfl hl.1 rfl (lv_room (Nat.le_of_ble_eq_true rfl)) d_M_remainder_10 ⟨Nat.le_of_ble_eq_true rfl, Nat.le_of_ble_eq_true rfl⟩)) (fun r hq2 => ?_)
  subst hq2
  refine lv_istore (lv' := [(7, .int (jm (blen a))), (5, .long (lN a)), (4, .int (nI b.log2)), (0, .long (lN a)), (2, .long (lN b))]) hx hb d_M_remainder_13 hl (by decide) rfl (fun ls hl => ?_)
  have hl := lv_sub (l' := [(0, .long (lN a)), (2, .long (lN b)), (4, .int (nI b.log2)), (5, .long (lN a)), (7, .int (jm (blen a)))]) hl [3, 4, 2, 1, 0] rfl
  exact loop (blen a) a (blen_le ha) (blen_lt a) (px_cg_refl b a) ls hl
