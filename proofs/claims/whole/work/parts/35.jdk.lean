/-! contracts of Long and Integer: bits counted, lowest bit; laid by a program -/
theorem and15 {z K : Nat} (hK : K < 2 ^ 64) : lN z &&& lN K = lN (z &&& K) := by
  apply wb_inj
  show BitVec.ofNat 64 _ &&& BitVec.ofNat 64 _ = BitVec.ofNat 64 _
  apply BitVec.eq_of_getLsbD_eq
  intro j hj
  simp [hj]
set_option maxHeartbeats 4000000 in
set_option maxRecDepth 100000 in
theorem c_JL_bitCount (l : Launch) (x : Nat) (hx0 : x < 2 ^ 64) : Met l y_JL_bitCount w_JL_bitCount ({ frames := 0, cells := 0, slots := 0, locals := 0 } : Room) (va_Pc [.long (lN x)] (fun _ => True)) (vp_Si (fun r => r = nI (pc_n x 64))) 0 0 (fun _ => False) := by
  refine Met.ofW (cc := b_JL_bitCount) (maxL := 2) (ret := (Option.some Jvm.ClassFile.FieldType.int)) (by decide) rfl ?_
  intro pg en st mm ar bw me co s₁ B hml hv
  obtain ⟨rfl, -⟩ := hv
  have hx := B.exec
  have hb := B.bytes
  have hr := B.returns
  have hlocks := B.notSynchronized
  have hts0 := atoms_spec (ws := w_JL_bitCount) B.pre
  have hts : ∀ w ∈ gw, w.before _ st = true := fun w h => hts0 w (List.mem_cons_of_mem _ h)
  have hown : st.vm.findClass R_JL = some mm.cls := findClass_of_methodNamed B.named
  have hl := lv_entry ([.long (lN x)]) (n := 2) (Nat.le_of_ble_eq_true rfl)
  rw [lg_entry_eq]
  generalize (lg_sl ([.long (lN x)]) ++ List.replicate (2 - (lg_sl ([.long (lN x)])).length) Slot.unset).toArray = ls at hl ⊢
  have hl : lv_has ls 2 [(0, .long (lN x))] := hl
  obtain ⟨h8a, h8b, h8c⟩ := bc_8 hx0
  obtain ⟨y, hy, hy2, hy3⟩ := bc_main hx0
  refine lv_lload_n hx hb d_JL_bitCount_0 rfl (lv_at hl 0 rfl) ?_
  refine lv_lload_n hx hb d_JL_bitCount_1 rfl (lv_at hl 0 rfl) ?_
  refine lv_iconst (v := nI 1) hx hb d_JL_bitCount_2 (by decide) ?_
  refine lv_lushr (v := lN (x / 2 ^ 1)) hx hb d_JL_bitCount_3 (wb_shr hx0 (by decide)) ?_
  refine lv_topl (nm_r (show _ = lN (x / 2) from by rw [Nat.pow_one]) ?_)
  refine lv_ldc2 (v := (6148914691236517205)) hx hb hown (hts _ kw_200) d_JL_bitCount_4 ?_
  refine lv_topl (nm_r (show _ = lN (bc_k 85 8) from by decide +kernel) ?_)
  refine lv_land hx hb d_JL_bitCount_7 ?_
  refine lv_topl (nm_r (show _ = lN (x / 2 &&& bc_k 85 8) from wb_and (Nat.lt_of_le_of_lt (Nat.div_le_self _ _) hx0) (show bc_k 85 8 < 2 ^ 64 by decide +kernel)) ?_)
  refine lv_lsub hx hb d_JL_bitCount_8 ?_
  refine lv_topl (nm_r (show _ = lN (bc_1 8 x) from lN_sub h8a) ?_)
  refine lv_lstore_n (lv' := [(0, .long (lN (bc_1 8 x)))]) hx hb d_JL_bitCount_9 rfl hl (by decide) rfl (fun ls hl => ?_)
  refine lv_lload_n hx hb d_JL_bitCount_10 rfl (lv_at hl 0 rfl) ?_
  refine lv_ldc2 (v := (3689348814741910323)) hx hb hown (hts _ kw_201) d_JL_bitCount_11 ?_
  refine lv_topl (nm_r (show _ = lN (bc_k 51 8) from by decide +kernel) ?_)
  refine lv_land hx hb d_JL_bitCount_14 ?_
  refine lv_topl (nm_r (show _ = lN (bc_1 8 x &&& bc_k 51 8) from wb_and h8b (show bc_k 51 8 < 2 ^ 64 by decide +kernel)) ?_)
  refine lv_lload_n hx hb d_JL_bitCount_15 rfl (lv_at hl 0 rfl) ?_
  refine lv_iconst (v := nI 2) hx hb d_JL_bitCount_16 (by decide) ?_
  refine lv_lushr (v := lN ((bc_1 8 x) / 2 ^ 2)) hx hb d_JL_bitCount_17 (wb_shr h8b (by decide)) ?_
  refine lv_topl (nm_r (show _ = lN (bc_1 8 x / 4) from rfl) ?_)
  refine lv_ldc2 (v := (3689348814741910323)) hx hb hown (hts _ kw_201) d_JL_bitCount_18 ?_
  refine lv_topl (nm_r (show _ = lN (bc_k 51 8) from by decide +kernel) ?_)
  refine lv_land hx hb d_JL_bitCount_21 ?_
  refine lv_topl (nm_r (show _ = lN (bc_1 8 x / 4 &&& bc_k 51 8) from wb_and (Nat.lt_of_le_of_lt (Nat.div_le_self _ _) h8b) (show bc_k 51 8 < 2 ^ 64 by decide +kernel)) ?_)
  refine lv_ladd hx hb d_JL_bitCount_22 ?_
  refine lv_topl (nm_r (show _ = lN (bc_2 8 (bc_1 8 x)) from lN_add _ _) ?_)
  have h8d := h8c
  generalize hze : bc_2 8 (bc_1 8 x) = z at h8d hy ⊢
  refine lv_lstore_n (lv' := [(0, .long (lN z))]) hx hb d_JL_bitCount_23 rfl hl (by decide) rfl (fun ls hl => ?_)
  refine lv_lload_n hx hb d_JL_bitCount_24 rfl (lv_at hl 0 rfl) ?_
  refine lv_lload_n hx hb d_JL_bitCount_25 rfl (lv_at hl 0 rfl) ?_
  refine lv_iconst (v := nI 4) hx hb d_JL_bitCount_26 (by decide) ?_
  refine lv_lushr (v := lN (z / 2 ^ 4)) hx hb d_JL_bitCount_27 (wb_shr h8d (by decide)) ?_
  refine lv_topl (nm_r (show _ = lN (z / 16) from rfl) ?_)
  refine lv_ladd hx hb d_JL_bitCount_28 ?_
  refine lv_topl (nm_r (show _ = lN (z + z / 16) from lN_add _ _) ?_)
  refine lv_ldc2 (v := (1085102592571150095)) hx hb hown (hts _ kw_202) d_JL_bitCount_29 ?_
  refine lv_topl (nm_r (show _ = lN (bc_k 15 8) from by decide +kernel) ?_)
  refine lv_land hx hb d_JL_bitCount_32 ?_
  refine lv_topl (nm_r (show _ = lN ((z + z / 16) &&& bc_k 15 8) from and15 (show bc_k 15 8 < 2 ^ 64 by decide +kernel)) ?_)
  refine lv_topl (nm_r (show _ = lN y from congrArg lN hy) ?_)
  refine lv_lstore_n (lv' := [(0, .long (lN y))]) hx hb d_JL_bitCount_33 rfl hl (by decide) rfl (fun ls hl => ?_)
  refine lv_lload_n hx hb d_JL_bitCount_34 rfl (lv_at hl 0 rfl) ?_
  refine lv_lload_n hx hb d_JL_bitCount_35 rfl (lv_at hl 0 rfl) ?_
  refine lv_bipush (v := nI 8) hx hb d_JL_bitCount_36 (by decide) ?_
  refine lv_lushr (v := lN (y / 2 ^ 8)) hx hb d_JL_bitCount_38 (wb_shr (by omega) (by decide)) ?_
  refine lv_topl (nm_r (show _ = lN (y / 256) from rfl) ?_)
  refine lv_ladd hx hb d_JL_bitCount_39 ?_
  refine lv_topl (nm_r (show _ = lN (y + y / 256) from lN_add _ _) ?_)
  refine lv_lstore_n (lv' := [(0, .long (lN (y + y / 256)))]) hx hb d_JL_bitCount_40 rfl hl (by decide) rfl (fun ls hl => ?_)
  refine lv_lload_n hx hb d_JL_bitCount_41 rfl (lv_at hl 0 rfl) ?_
  refine lv_lload_n hx hb d_JL_bitCount_42 rfl (lv_at hl 0 rfl) ?_
  refine lv_bipush (v := nI 16) hx hb d_JL_bitCount_43 (by decide) ?_
  refine lv_lushr (v := lN ((y + y / 256) / 2 ^ 16)) hx hb d_JL_bitCount_45 (wb_shr (by omega) (by decide)) ?_
  refine lv_topl (nm_r (show _ = lN ((y + y / 256) / 65536) from rfl) ?_)
  refine lv_ladd hx hb d_JL_bitCount_46 ?_
  refine lv_topl (nm_r (show _ = lN (y + y / 256 + (y + y / 256) / 65536) from lN_add _ _) ?_)
  refine lv_lstore_n (lv' := [(0, .long (lN (y + y / 256 + (y + y / 256) / 65536)))]) hx hb d_JL_bitCount_47 rfl hl (by decide) rfl (fun ls hl => ?_)
  refine lv_lload_n hx hb d_JL_bitCount_48 rfl (lv_at hl 0 rfl) ?_
  refine lv_lload_n hx hb d_JL_bitCount_49 rfl (lv_at hl 0 rfl) ?_
  refine lv_bipush (v := nI 32) hx hb d_JL_bitCount_50 (by decide) ?_
  refine lv_lushr (v := lN ((y + y / 256 + (y + y / 256) / 65536) / 2 ^ 32)) hx hb d_JL_bitCount_52 (wb_shr (by omega) (by decide)) ?_
  refine lv_topl (nm_r (show _ = lN ((y + y / 256 + (y + y / 256) / 65536) / 4294967296) from rfl) ?_)
  refine lv_ladd hx hb d_JL_bitCount_53 ?_
  refine lv_topl (nm_r (show _ = lN (y + y / 256 + (y + y / 256) / 65536 + (y + y / 256 + (y + y / 256) / 65536) / 4294967296) from lN_add _ _) ?_)
  refine lv_lstore_n (lv' := [(0, .long (lN (y + y / 256 + (y + y / 256) / 65536 + (y + y / 256 + (y + y / 256) / 65536) / 4294967296)))]) hx hb d_JL_bitCount_54 rfl hl (by decide) rfl (fun ls hl => ?_)
  refine lv_lload_n hx hb d_JL_bitCount_55 rfl (lv_at hl 0 rfl) ?_
  refine lv_l2i (v := nI (y + y / 256 + (y + y / 256) / 65536 + (y + y / 256 + (y + y / 256) / 65536) / 4294967296)) hx hb d_JL_bitCount_56 (lN_i _) ?_
  refine lv_bipush (v := nI 127) hx hb d_JL_bitCount_57 (by decide) ?_
  refine lv_iand hx hb d_JL_bitCount_59 ?_
  refine lv_topi (nm_r (show _ = nI (pc_n x 64) from (nI_and127 _).trans (congrArg nI hy3)) ?_)
  exact W.iret (v := nI (pc_n x 64)) hx hb hr (fun t ht hW => ⟨nI (pc_n x 64), rfl, rfl, ht⟩) (fun _ h => nomatch h) d_JL_bitCount_60
set_option maxHeartbeats 4000000 in
set_option maxRecDepth 100000 in
theorem c_JI_numberOfTrailingZeros (l : Launch) (v k : Nat) (hv0 : v < 2 ^ 32) (hb0 : lb v k) : Met l y_JI_numberOfTrailingZeros w_JI_numberOfTrailingZeros ({ frames := 0, cells := 0, slots := 0, locals := 0 } : Room) (va_Pc [.int (nI v)] (fun _ => True)) (vp_Si (fun r => r = nI k)) 0 0 (fun _ => False) := by
  refine Met.ofW (cc := b_JI_numberOfTrailingZeros) (maxL := 2) (ret := (Option.some Jvm.ClassFile.FieldType.int)) (by decide) rfl ?_
  intro pg en st mm ar bw me co s₁ B hml hv
  obtain ⟨rfl, -⟩ := hv
  have hx := B.exec
  have hb := B.bytes
  have hr := B.returns
  have hlocks := B.notSynchronized
  have hts0 := atoms_spec (ws := w_JI_numberOfTrailingZeros) B.pre
  have hts : ∀ w ∈ gw, w.before _ st = true := fun w h => hts0 w (List.mem_cons_of_mem _ h)
  have hown : st.vm.findClass R_JI = some mm.cls := findClass_of_methodNamed B.named
  have hl := lv_entry ([.int (nI v)]) (n := 2) (Nat.le_of_ble_eq_true rfl)
  rw [lg_entry_eq]
  generalize (lg_sl ([.int (nI v)]) ++ List.replicate (2 - (lg_sl ([.int (nI v)])).length) Slot.unset).toArray = ls at hl ⊢
  have hl : lv_has ls 2 [(0, .int (nI v))] := hl
  have hk := lb_lt hv0 hb0
  have j74 : ∀ (j nn : Nat), 1 ≤ j → j ≤ 2 → nn + j = k + 1 → ∀ (ls : Array Slot), lv_has ls 2 [(0, .int (nI (2 ^ j - 1))), (1, .int (nI nn))] → W pg l en (headSpec w_JI_numberOfTrailingZeros ({ frames := 0, cells := 0, slots := 0, locals := 0 } : Room)).room st mm ([.int (nI v)] : List Value).toArray bw me co st.heap [] 0 0 (MQ bw (vp_Si (fun r => r = nI k)) ([.int (nI v)] : List Value).toArray st 0 0 (fun _ => False)) (F0 mm 74 ls []) := by
    intro j nn h1 h2 h3 ls hl
    have hj : 2 ^ j ≤ 2 ^ 31 := Nat.pow_le_pow_right (by decide) (by omega)
    refine lv_iload_n hx hb d_JI_numberOfTrailingZeros_74 rfl (lv_at hl 1 rfl) ?_
    refine lv_iload_n hx hb d_JI_numberOfTrailingZeros_75 rfl (lv_at hl 0 rfl) ?_
    refine lv_iconst (v := nI 1) hx hb d_JI_numberOfTrailingZeros_76 (by decide) ?_
    refine lv_iushr (v := nI ((2 ^ j - 1) / 2 ^ 1)) hx hb d_JI_numberOfTrailingZeros_77 (pk_ushrN (by omega) (nI 1) 1 (by decide)) ?_
    refine lv_iadd hx hb d_JI_numberOfTrailingZeros_78 ?_
    refine lv_topi (nm_r (show _ = nI k from by
        have hj2 : j = 1 ∨ j = 2 := by omega
        rcases hj2 with e | e <;> subst e <;> rw [nI_add] <;> congr 1 <;> omega) ?_)
    exact W.iret (v := nI k) hx hb hr (fun t ht hW => ⟨nI k, rfl, rfl, ht⟩) (fun _ h => nomatch h) d_JI_numberOfTrailingZeros_79
  have j62 : ∀ (j nn : Nat), 1 ≤ j → j ≤ 4 → nn + j = k + 1 → ∀ (ls : Array Slot), lv_has ls 2 [(0, .int (nI (2 ^ j - 1))), (1, .int (nI nn))] → W pg l en (headSpec w_JI_numberOfTrailingZeros ({ frames := 0, cells := 0, slots := 0, locals := 0 } : Room)).room st mm ([.int (nI v)] : List Value).toArray bw me co st.heap [] 0 0 (MQ bw (vp_Si (fun r => r = nI k)) ([.int (nI v)] : List Value).toArray st 0 0 (fun _ => False)) (F0 mm 62 ls []) := by
    intro j nn h1 h2 h3 ls hl
    have hj : 2 ^ j ≤ 2 ^ 31 := Nat.pow_le_pow_right (by decide) (by omega)
    refine lv_iload_n hx hb d_JI_numberOfTrailingZeros_62 rfl (lv_at hl 0 rfl) ?_
    refine lv_iconst (v := nI 4) hx hb d_JI_numberOfTrailingZeros_63 (by decide) ?_
    refine lv_icmp_le (tgt := 74) hx hb d_JI_numberOfTrailingZeros_64 (by decide) (fun hc => ?_) (fun hc => ?_)
    · have hc := (nz_le (j := j) (t := 2) (by decide)).mp ((nI_leI (by omega) (by decide)).mp hc)
      exact j74 j nn h1 (by omega) h3 ls hl
    · have hc : ¬ j ≤ 2 := fun z => hc ((nI_leI (by omega) (by decide)).mpr ((nz_le (j := j) (t := 2) (by decide)).mpr z))
      refine lv_iinc (v := nI (nn + 2)) (lv' := [(1, .int (nI (nn + 2))), (0, .int (nI (2 ^ j - 1)))]) hx hb d_JI_numberOfTrailingZeros_67 hl (k := 1) rfl (nI_add nn 2) (by decide) rfl (fun ls hl => ?_)
      refine lv_iload_n hx hb d_JI_numberOfTrailingZeros_70 rfl (lv_at hl 1 rfl) ?_
      refine lv_iconst (v := nI 2) hx hb d_JI_numberOfTrailingZeros_71 (by decide) ?_
      refine lv_iushr (v := nI ((2 ^ j - 1) / 2 ^ 2)) hx hb d_JI_numberOfTrailingZeros_72 (pk_ushrN (by omega) (nI 2) 2 (by decide)) ?_
      refine lv_topi (nm_r (show _ = nI (2 ^ (j - 2) - 1) from by rw [nz_div (by omega)]) ?_)
      refine lv_istore_n (lv' := [(0, .int (nI (2 ^ (j - 2) - 1))), (1, .int (nI (nn + 2)))]) hx hb d_JI_numberOfTrailingZeros_73 rfl hl (by decide) rfl (fun ls hl => ?_)
      exact j74 (j - 2) (nn + 2) (by omega) (by omega) (by omega) ls hl
  have j49 : ∀ (j nn : Nat), 1 ≤ j → j ≤ 8 → nn + j = k + 1 → ∀ (ls : Array Slot), lv_has ls 2 [(0, .int (nI (2 ^ j - 1))), (1, .int (nI nn))] → W pg l en (headSpec w_JI_numberOfTrailingZeros ({ frames := 0, cells := 0, slots := 0, locals := 0 } : Room)).room st mm ([.int (nI v)] : List Value).toArray bw me co st.heap [] 0 0 (MQ bw (vp_Si (fun r => r = nI k)) ([.int (nI v)] : List Value).toArray st 0 0 (fun _ => False)) (F0 mm 49 ls []) := by
    intro j nn h1 h2 h3 ls hl
    have hj : 2 ^ j ≤ 2 ^ 31 := Nat.pow_le_pow_right (by decide) (by omega)
    refine lv_iload_n hx hb d_JI_numberOfTrailingZeros_49 rfl (lv_at hl 0 rfl) ?_
    refine lv_bipush (v := nI 16) hx hb d_JI_numberOfTrailingZeros_50 (by decide) ?_
    refine lv_icmp_le (tgt := 62) hx hb d_JI_numberOfTrailingZeros_52 (by decide) (fun hc => ?_) (fun hc => ?_)
    · have hc := (nz_le (j := j) (t := 4) (by decide)).mp ((nI_leI (by omega) (by decide)).mp hc)
      exact j62 j nn h1 (by omega) h3 ls hl
    · have hc : ¬ j ≤ 4 := fun z => hc ((nI_leI (by omega) (by decide)).mpr ((nz_le (j := j) (t := 4) (by decide)).mpr z))
      refine lv_iinc (v := nI (nn + 4)) (lv' := [(1, .int (nI (nn + 4))), (0, .int (nI (2 ^ j - 1)))]) hx hb d_JI_numberOfTrailingZeros_55 hl (k := 1) rfl (nI_add nn 4) (by decide) rfl (fun ls hl => ?_)
      refine lv_iload_n hx hb d_JI_numberOfTrailingZeros_58 rfl (lv_at hl 1 rfl) ?_
      refine lv_iconst (v := nI 4) hx hb d_JI_numberOfTrailingZeros_59 (by decide) ?_
      refine lv_iushr (v := nI ((2 ^ j - 1) / 2 ^ 4)) hx hb d_JI_numberOfTrailingZeros_60 (pk_ushrN (by omega) (nI 4) 4 (by decide)) ?_
      refine lv_topi (nm_r (show _ = nI (2 ^ (j - 4) - 1) from by rw [nz_div (by omega)]) ?_)
      refine lv_istore_n (lv' := [(0, .int (nI (2 ^ (j - 4) - 1))), (1, .int (nI (nn + 4)))]) hx hb d_JI_numberOfTrailingZeros_61 rfl hl (by decide) rfl (fun ls hl => ?_)
      exact j62 (j - 4) (nn + 4) (by omega) (by omega) (by omega) ls hl
  have j34 : ∀ (j nn : Nat), 1 ≤ j → j ≤ 16 → nn + j = k + 1 → ∀ (ls : Array Slot), lv_has ls 2 [(0, .int (nI (2 ^ j - 1))), (1, .int (nI nn))] → W pg l en (headSpec w_JI_numberOfTrailingZeros ({ frames := 0, cells := 0, slots := 0, locals := 0 } : Room)).room st mm ([.int (nI v)] : List Value).toArray bw me co st.heap [] 0 0 (MQ bw (vp_Si (fun r => r = nI k)) ([.int (nI v)] : List Value).toArray st 0 0 (fun _ => False)) (F0 mm 34 ls []) := by
    intro j nn h1 h2 h3 ls hl
    have hj : 2 ^ j ≤ 2 ^ 31 := Nat.pow_le_pow_right (by decide) (by omega)
    refine lv_iload_n hx hb d_JI_numberOfTrailingZeros_34 rfl (lv_at hl 0 rfl) ?_
    refine lv_sipush (v := nI 256) hx hb d_JI_numberOfTrailingZeros_35 (by decide) ?_
    refine lv_icmp_le (tgt := 49) hx hb d_JI_numberOfTrailingZeros_38 (by decide) (fun hc => ?_) (fun hc => ?_)
    · have hc := (nz_le (j := j) (t := 8) (by decide)).mp ((nI_leI (by omega) (by decide)).mp hc)
      exact j49 j nn h1 (by omega) h3 ls hl
    · have hc : ¬ j ≤ 8 := fun z => hc ((nI_leI (by omega) (by decide)).mpr ((nz_le (j := j) (t := 8) (by decide)).mpr z))
      refine lv_iinc (v := nI (nn + 8)) (lv' := [(1, .int (nI (nn + 8))), (0, .int (nI (2 ^ j - 1)))]) hx hb d_JI_numberOfTrailingZeros_41 hl (k := 1) rfl (nI_add nn 8) (by decide) rfl (fun ls hl => ?_)
      refine lv_iload_n hx hb d_JI_numberOfTrailingZeros_44 rfl (lv_at hl 1 rfl) ?_
      refine lv_bipush (v := nI 8) hx hb d_JI_numberOfTrailingZeros_45 (by decide) ?_
      refine lv_iushr (v := nI ((2 ^ j - 1) / 2 ^ 8)) hx hb d_JI_numberOfTrailingZeros_47 (pk_ushrN (by omega) (nI 8) 8 (by decide)) ?_
      refine lv_topi (nm_r (show _ = nI (2 ^ (j - 8) - 1) from by rw [nz_div (by omega)]) ?_)
      refine lv_istore_n (lv' := [(0, .int (nI (2 ^ (j - 8) - 1))), (1, .int (nI (nn + 8)))]) hx hb d_JI_numberOfTrailingZeros_48 rfl hl (by decide) rfl (fun ls hl => ?_)
      exact j49 (j - 8) (nn + 8) (by omega) (by omega) (by omega) ls hl
  refine lv_iload_n hx hb d_JI_numberOfTrailingZeros_0 rfl (lv_at hl 0 rfl) ?_
  refine lv_iconst (v := (-1)) hx hb d_JI_numberOfTrailingZeros_1 (by decide) ?_
  refine lv_ixor hx hb d_JI_numberOfTrailingZeros_2 ?_
  refine lv_topi (nm_r (show _ = nI (v ^^^ (2 ^ 32 - 1)) from nI_not) ?_)
  refine lv_iload_n hx hb d_JI_numberOfTrailingZeros_3 rfl (lv_at hl 0 rfl) ?_
  refine lv_iconst (v := nI 1) hx hb d_JI_numberOfTrailingZeros_4 (by decide) ?_
  refine lv_isub hx hb d_JI_numberOfTrailingZeros_5 ?_
  refine lv_topi (nm_r (show _ = nI (v - 1) from pk_sub (b := 1) (lb_pos hb0)) ?_)
  refine lv_iand hx hb d_JI_numberOfTrailingZeros_6 ?_
  refine lv_topi (nm_r (show _ = nI (2 ^ k - 1) from (nI_and2 _ _).trans (congrArg nI (lb_mask hv0 hk hb0))) ?_)
  refine lv_istore_n (lv' := [(0, .int (nI (2 ^ k - 1)))]) hx hb d_JI_numberOfTrailingZeros_7 rfl hl (by decide) rfl (fun ls hl => ?_)
  refine lv_iload_n hx hb d_JI_numberOfTrailingZeros_8 rfl (lv_at hl 0 rfl) ?_
  have hp31 : 2 ^ k ≤ 2 ^ 31 := Nat.pow_le_pow_right (by decide) (by omega)
  refine lv_if_gt (tgt := 17) hx hb d_JI_numberOfTrailingZeros_9 (by decide) (fun hc => ?_) (fun hc => ?_)
  · have hg := (nI_gt0 (show 2 ^ k - 1 < 2 ^ 32 by omega)).mp hc
    have hk1 : 1 ≤ k := Nat.pos_of_ne_zero (fun z => by rw [z] at hg; exact absurd hg.1 (by decide))
    refine lv_iconst (v := nI 1) hx hb d_JI_numberOfTrailingZeros_17 (by decide) ?_
    refine lv_istore_n (lv' := [(1, .int (nI 1)), (0, .int (nI (2 ^ k - 1)))]) hx hb d_JI_numberOfTrailingZeros_18 rfl hl (by decide) rfl (fun ls hl => ?_)
    have hl := lv_sub (l' := [(0, .int (nI (2 ^ k - 1))), (1, .int (nI 1))]) hl [1, 0] rfl
    obtain ⟨j, hjk⟩ : ∃ j, j = k := ⟨k, rfl⟩
    obtain ⟨nn, hnn⟩ : ∃ nn : Nat, nn = 1 := ⟨1, rfl⟩
    have hl : lv_has ls 2 [(0, .int (nI (2 ^ j - 1))), (1, .int (nI nn))] := by rw [hjk, hnn]; exact hl
    have hj : 2 ^ j ≤ 2 ^ 31 := by rw [hjk]; exact hp31
    refine lv_iload_n hx hb d_JI_numberOfTrailingZeros_19 rfl (lv_at hl 0 rfl) ?_
    refine lv_ldcw (v := nI 65536) hx hb hown (hts _ kw_130) d_JI_numberOfTrailingZeros_20 ?_
    refine lv_icmp_le (tgt := 34) hx hb d_JI_numberOfTrailingZeros_23 (by decide) (fun hc => ?_) (fun hc => ?_)
    · have hc := (nz_le (j := j) (t := 16) (by decide)).mp ((nI_leI (by omega) (by decide)).mp hc)
      exact j34 j nn (by omega) hc (by omega) ls hl
    · have hc : ¬ j ≤ 16 := fun z => hc ((nI_leI (by omega) (by decide)).mpr ((nz_le (j := j) (t := 16) (by decide)).mpr z))
      refine lv_iinc (v := nI (nn + 16)) (lv' := [(1, .int (nI (nn + 16))), (0, .int (nI (2 ^ j - 1)))]) hx hb d_JI_numberOfTrailingZeros_26 hl (k := 1) rfl (nI_add nn 16) (by decide) rfl (fun ls hl => ?_)
      refine lv_iload_n hx hb d_JI_numberOfTrailingZeros_29 rfl (lv_at hl 1 rfl) ?_
      refine lv_bipush (v := nI 16) hx hb d_JI_numberOfTrailingZeros_30 (by decide) ?_
      refine lv_iushr (v := nI ((2 ^ j - 1) / 2 ^ 16)) hx hb d_JI_numberOfTrailingZeros_32 (pk_ushrN (by omega) (nI 16) 16 (by decide)) ?_
      refine lv_topi (nm_r (show _ = nI (2 ^ (j - 16) - 1) from by rw [nz_div (by omega)]) ?_)
      refine lv_istore_n (lv' := [(0, .int (nI (2 ^ (j - 16) - 1))), (1, .int (nI (nn + 16)))]) hx hb d_JI_numberOfTrailingZeros_33 rfl hl (by decide) rfl (fun ls hl => ?_)
      exact j34 (j - 16) (nn + 16) (by omega) (by omega) (by omega) ls hl
  · have hk0 : k = 0 := Classical.byContradiction fun hn => hc ((nI_gt0 (show 2 ^ k - 1 < 2 ^ 32 by omega)).mpr (by
      have h9 : 2 ^ 1 ≤ 2 ^ k := Nat.pow_le_pow_right (by decide) (by omega)
      omega))
    refine lv_iload_n hx hb d_JI_numberOfTrailingZeros_12 rfl (lv_at hl 0 rfl) ?_
    refine lv_bipush (v := nI 32) hx hb d_JI_numberOfTrailingZeros_13 (by decide) ?_
    refine lv_iand hx hb d_JI_numberOfTrailingZeros_15 ?_
    refine lv_topi (nm_r (show _ = nI k from by rw [hk0]; decide) ?_)
    exact W.iret (v := nI k) hx hb hr (fun t ht hW => ⟨nI k, rfl, rfl, ht⟩) (fun _ h => nomatch h) d_JI_numberOfTrailingZeros_16
set_option maxHeartbeats 4000000 in
set_option maxRecDepth 100000 in
theorem c_JL_numberOfTrailingZeros (l : Launch) (v k : Nat) (hv0 : v < 2 ^ 64) (hb0 : lb v k) : Met l y_JL_numberOfTrailingZeros w_JL_numberOfTrailingZeros ({ frames := 1, cells := 0, slots := 0, locals := 21 } : Room) (va_Pc [.long (lN v)] (fun _ => True)) (vp_Si (fun r => r = nI k)) 0 0 (fun _ => False) := by
  refine Met.ofW (cc := b_JL_numberOfTrailingZeros) (maxL := 3) (ret := (Option.some Jvm.ClassFile.FieldType.int)) (by decide) rfl ?_
  intro pg en st mm ar bw me co s₁ B hml hv
  obtain ⟨rfl, -⟩ := hv
  have hx := B.exec
  have hb := B.bytes
  have hr := B.returns
  have hlocks := B.notSynchronized
  have hts0 := atoms_spec (ws := w_JL_numberOfTrailingZeros) B.pre
  have hts : ∀ w ∈ gw, w.before _ st = true := fun w h => hts0 w (List.mem_cons_of_mem _ h)
  have hown : st.vm.findClass R_JL = some mm.cls := findClass_of_methodNamed B.named
  have hl := lv_entry ([.long (lN v)]) (n := 3) (Nat.le_of_ble_eq_true rfl)
  rw [lg_entry_eq]
  generalize (lg_sl ([.long (lN v)]) ++ List.replicate (3 - (lg_sl ([.long (lN v)])).length) Slot.unset).toArray = ls at hl ⊢
  have hl : lv_has ls 3 [(0, .long (lN v))] := hl
  have hk := lb_lt hv0 hb0
  refine lv_lload_n hx hb d_JL_numberOfTrailingZeros_0 rfl (lv_at hl 0 rfl) ?_
  refine lv_l2i (v := nI v) hx hb d_JL_numberOfTrailingZeros_1 (lN_i _) ?_
  refine lv_topi (nm_r (show _ = nI (v % 2 ^ 32) from (nI_mod v).symm) ?_)
  refine lv_istore_n (lv' := [(2, .int (nI (v % 2 ^ 32))), (0, .long (lN v))]) hx hb d_JL_numberOfTrailingZeros_2 rfl hl (by decide) rfl (fun ls hl => ?_)
  refine lv_iload_n hx hb d_JL_numberOfTrailingZeros_3 rfl (lv_at hl 0 rfl) ?_
  refine lv_if_ne (tgt := 21) hx hb d_JL_numberOfTrailingZeros_4 (by decide) (fun hc => ?_) (fun hc => ?_)
  · have hz : v % 2 ^ 32 ≠ 0 := fun z => hc ((nI_eq0 (Nat.mod_lt _ (by decide))).mpr z)
    have hk2 : k < 32 := Classical.byContradiction fun z => hz (lb_hi hb0 (by omega)).2
    refine lv_iload_n hx hb d_JL_numberOfTrailingZeros_21 rfl (lv_at hl 0 rfl) ?_
    refine vp_callSi (va_Run.run (va_runS (As := [.int (nI (v % 2 ^ 32))]) (rest := []) ⟨hx, hb, hml, hown, hts⟩ (c_JI_numberOfTrailingZeros l (v % 2 ^ 32) k (Nat.mod_lt _ (by decide)) (lb_lo hb0 hk2)) (va_cwS 1 hts (gi_S kw_511 kw_512 kw_7 gi_JI_numberOfTrailingZeros) rfl rfl rfl ⟨by decide, by decide, by decide⟩ ⟨Nat.le_of_ble_eq_true rfl, Nat.le_of_ble_eq_true rfl⟩) wq_preS0 rfl rfl hl.1 rfl (lv_room (Nat.le_of_ble_eq_true rfl)) d_JL_numberOfTrailingZeros_22 ⟨Nat.le_of_ble_eq_true rfl, Nat.le_of_ble_eq_true rfl⟩)) (fun r hq => ?_)
    subst hq
    exact W.iret (v := nI k) hx hb hr (fun t ht hW => ⟨nI k, rfl, rfl, ht⟩) (fun _ h => nomatch h) d_JL_numberOfTrailingZeros_25
  · have hz : v % 2 ^ 32 = 0 := (nI_eq0 (Nat.mod_lt _ (by decide))).mp hc
    have hk2 : 32 ≤ k := Classical.byContradiction fun z => lb_ne (lb_lo hb0 (by omega)) hz
    refine lv_bipush (v := nI 32) hx hb d_JL_numberOfTrailingZeros_7 (by decide) ?_
    refine lv_lload_n hx hb d_JL_numberOfTrailingZeros_9 rfl (lv_at hl 1 rfl) ?_
    refine lv_bipush (v := nI 32) hx hb d_JL_numberOfTrailingZeros_10 (by decide) ?_
    refine lv_lushr (v := lN (v / 2 ^ 32)) hx hb d_JL_numberOfTrailingZeros_12 (wb_shr hv0 (by decide)) ?_
    refine lv_l2i (v := nI (v / 2 ^ 32)) hx hb d_JL_numberOfTrailingZeros_13 (lN_i _) ?_
    refine vp_callSi (va_Run.run (va_runS (As := [.int (nI (v / 2 ^ 32))]) (rest := [.int (nI 32)]) ⟨hx, hb, hml, hown, hts⟩ (c_JI_numberOfTrailingZeros l (v / 2 ^ 32) (k - 32) (by omega) (lb_hi hb0 hk2).1) (va_cwS 1 hts (gi_S kw_511 kw_512 kw_7 gi_JI_numberOfTrailingZeros) rfl rfl rfl ⟨by decide, by decide, by decide⟩ ⟨Nat.le_of_ble_eq_true rfl, Nat.le_of_ble_eq_true rfl⟩) wq_preS0 rfl rfl hl.1 rfl (lv_room (Nat.le_of_ble_eq_true rfl)) d_JL_numberOfTrailingZeros_14 ⟨Nat.le_of_ble_eq_true rfl, Nat.le_of_ble_eq_true rfl⟩)) (fun r hq => ?_)
    subst hq
    refine lv_iadd hx hb d_JL_numberOfTrailingZeros_17 ?_
    refine lv_topi (nm_r (show _ = nI k from by rw [nI_add]; congr 1; omega) ?_)
    refine lv_goto (tgt := 25) hx hb d_JL_numberOfTrailingZeros_18 (by decide) ?_
    exact W.iret (v := nI k) hx hb hr (fun t ht hW => ⟨nI k, rfl, rfl, ht⟩) (fun _ h => nomatch h) d_JL_numberOfTrailingZeros_25
