/-! contracts of the model: primitive; laid by a program -/
theorem oo_1 {p n : Nat} (hm : md p n) (e : Nat) : lN (px_r p (2 ^ e)) = lN 1 ↔ oo p e = true := by
  rw [lN_eqI (r_lt64 hm _) (by decide)]
  unfold oo
  exact decide_eq_true_iff.symm
theorem oo_0 {p n : Nat} (hm : md p n) (e : Nat) : ¬ lN (px_r p (2 ^ e)) = lN 1 ↔ oo p e = false := by
  rw [oo_1 hm]
  cases oo p e <;> simp
set_option maxHeartbeats 4000000 in
set_option maxRecDepth 100000 in
theorem c_O_primitive (l : Launch) (dC : Nat → ClassId) (dI : Nat → Nat → Nat) (cI cL : ClassId) (sz : Nat) (o0 g1 g2 g3 g4 g5 g6 g7 g8 : Nat) (fl p n vr ir od cc gc oc : Nat) (hm : md p n) : Met l y_O_primitive w_O_primitive ({ frames := 3, cells := 0, slots := 0, locals := 78 } : Room) (va_Pc [.ref o0] (wq_W (dC, dI) classes [(o0, .inr (4, [.int (nI fl), .long (lN p), .int (nI n), .long (lN vr), .int (nI ir), .long (lN od), .int (nI cc), .ref g1, .int (nI gc), .ref g2, .ref g3, .ref g4, .int (nI oc), .ref g5, .ref g6, .ref g7, .ref g8]))] [(cI, .int), (cL, .long)] sz)) (va_Qi (fun (r : Int32) (u : Unit) => (r = 1 ∧ px_ord p (2 ^ n - 1)) ∨ (r = 0 ∧ ¬ px_ord p (2 ^ n - 1))) (fun (u : Unit) t => wq_B (dC, dI) classes [(cI, .int), (cL, .long)] (va_A [(o0, .inr (4, [.int (nI fl), .long (lN p), .int (nI n), .long (lN vr), .int (nI ir), .long (lN od), .int (nI cc), .ref g1, .int (nI gc), .ref g2, .ref g3, .ref g4, .int (nI oc), .ref g5, .ref g6, .ref g7, .ref g8]))] sz) [(o0, .inr (4, [.int (nI 0), .long (lN p), .int (nI n), .long (lN vr), .int (nI ir), .long (lN od), .int (nI cc), .ref g1, .int (nI gc), .ref g2, .ref g3, .ref g4, .int (nI oc), .ref g5, .ref g6, .ref g7, .ref g8]))] t) (va_A [(o0, .inr (4, [.int (nI fl), .long (lN p), .int (nI n), .long (lN vr), .int (nI ir), .long (lN od), .int (nI cc), .ref g1, .int (nI gc), .ref g2, .ref g3, .ref g4, .int (nI oc), .ref g5, .ref g6, .ref g7, .ref g8]))] sz)) 0 0 (va_A [(o0, .inr (4, [.int (nI fl), .long (lN p), .int (nI n), .long (lN vr), .int (nI ir), .long (lN od), .int (nI cc), .ref g1, .int (nI gc), .ref g2, .ref g3, .ref g4, .int (nI oc), .ref g5, .ref g6, .ref g7, .ref g8]))] sz) := by
  refine Met.ofW (cc := b_O_primitive) (maxL := 10) (ret := (Option.some Jvm.ClassFile.FieldType.boolean)) (by decide) rfl ?_
  intro pg en st mm ar bw me co s₁ B hml hv
  obtain ⟨rfl, hsz, hP, hK, hD0, hN⟩ := hv
  have hx := B.exec
  have hb := B.bytes
  have hr := B.returns
  have hlocks := B.notSynchronized
  have hts0 := atoms_spec (ws := w_O_primitive) B.pre
  have hts : ∀ w ∈ gw, w.before _ st = true := fun w h => hts0 w (List.mem_cons_of_mem _ h)
  have hown : st.vm.findClass R_O = some mm.cls := findClass_of_methodNamed B.named
  subst hsz
  have hD := hD0.self (sz := st.heap.size)
  generalize hAe : va_A [(o0, .inr (4, [.int (nI fl), .long (lN p), .int (nI n), .long (lN vr), .int (nI ir), .long (lN od), .int (nI cc), .ref g1, .int (nI gc), .ref g2, .ref g3, .ref g4, .int (nI oc), .ref g5, .ref g6, .ref g7, .ref g8]))] st.heap.size = A at hD ⊢
  have hA : ∀ q : Nat, st.heap.size ≤ q → A q := fun q h => by rw [← hAe]; exact Or.inr h
  have hS : va_S A st.heap st.heap [] := va_S.rf
  have hl := lv_entry ([.ref o0]) (n := 10) (Nat.le_of_ble_eq_true rfl)
  rw [lg_entry_eq]
  generalize (lg_sl ([.ref o0]) ++ List.replicate (10 - (lg_sl ([.ref o0])).length) Slot.unset).toArray = ls at hl ⊢
  have hl : lv_has ls 10 [(0, .ref o0)] := hl
  have hn := hm.2.1
  have hp32 := md_n hm
  have hn1 : 2 ^ 1 ≤ 2 ^ n := Nat.pow_le_pow_right (by decide) hm.1
  obtain ⟨all, hall⟩ : ∃ all, 2 ^ n - 1 = all := ⟨_, rfl⟩
  have ha1 : 0 < all := by omega
  have ha2 : all < 2 ^ 32 := by omega
  have fin : ∀ (q rs : Nat) (b : Bool), all < q * q → td_I (oo p) all q rs b → px_o p all → ∀ (H : Heap) (locs : List Loc), va_P (dC, dI) classes [(o0, .inr (4, [.int (nI 0), .long (lN p), .int (nI n), .long (lN vr), .int (nI ir), .long (lN od), .int (nI cc), .ref g1, .int (nI gc), .ref g2, .ref g3, .ref g4, .int (nI oc), .ref g5, .ref g6, .ref g7, .ref g8]))] H → va_D A [(o0, .inr (4, [.int (nI 0), .long (lN p), .int (nI n), .long (lN vr), .int (nI ir), .long (lN od), .int (nI cc), .ref g1, .int (nI gc), .ref g2, .ref g3, .ref g4, .int (nI oc), .ref g5, .ref g6, .ref g7, .ref g8]))] → va_S A st.heap H locs → ∀ (ls : Array Slot), lv_has ls 10 [(0, .ref o0), (1, .long (lN all)), (3, .long (lN (px_r p 2))), (5, .long (lN rs)), (7, .int (nI (Bool.toNat b))), (8, .long (lN q))] → W pg l en (headSpec w_O_primitive ({ frames := 3, cells := 0, slots := 0, locals := 78 } : Room)).room st mm ([.ref o0] : List Value).toArray bw me co H locs 0 0 (MQ bw (va_Qi (fun (r : Int32) (u : Unit) => (r = 1 ∧ px_ord p (2 ^ n - 1)) ∨ (r = 0 ∧ ¬ px_ord p (2 ^ n - 1))) (fun (u : Unit) t => wq_B (dC, dI) classes [(cI, .int), (cL, .long)] A [(o0, .inr (4, [.int (nI 0), .long (lN p), .int (nI n), .long (lN vr), .int (nI ir), .long (lN od), .int (nI cc), .ref g1, .int (nI gc), .ref g2, .ref g3, .ref g4, .int (nI oc), .ref g5, .ref g6, .ref g7, .ref g8]))] t) A) ([.ref o0] : List Value).toArray st 0 0 A) (F0 mm 121 ls []) := by
    intro q rs b hqq hI hpo H locs hP hD hS ls hl
    have hend := ((td_end ha1 hI hqq).trans (td_prim (oo_iff hm) ha1 hpo)).trans (show px_ord p all ↔ px_ord p (2 ^ n - 1) by rw [hall])
    have hrs0 := hI.1
    have hrsl : rs ≤ all := Nat.le_of_dvd ha1 hI.2.1
    refine lv_iload hx hb d_O_primitive_121 (lv_at hl 4 rfl) ?_
    cases b
    · refine lv_if_eq (tgt := 164) hx hb d_O_primitive_123 (by decide) (fun _ => ?_) (fun hc => absurd hc (fun z => z rfl))
      refine lv_iconst (v := nI 0) hx hb d_O_primitive_164 (by decide) ?_
      have hP := hP.sub (ws' := [(o0, .inr (4, [.int (nI 0), .long (lN p), .int (nI n), .long (lN vr), .int (nI ir), .long (lN od), .int (nI cc), .ref g1, .int (nI gc), .ref g2, .ref g3, .ref g4, .int (nI oc), .ref g5, .ref g6, .ref g7, .ref g8]))]) [0] rfl
      have hD := hD.sub (ws' := [(o0, .inr (4, [.int (nI 0), .long (lN p), .int (nI n), .long (lN vr), .int (nI ir), .long (lN od), .int (nI cc), .ref g1, .int (nI gc), .ref g2, .ref g3, .ref g4, .int (nI oc), .ref g5, .ref g6, .ref g7, .ref g8]))]) [0] (by decide) rfl
      exact W.zret (v := nI 0) hx hb hr (rfl) (fun t9 ht hW => ⟨⟨nI 0, (), rfl, Or.inr ⟨rfl, fun z => absurd (hend.mpr z).1 (by decide)⟩, by rw [ht]; exact hP, va_K.moved hW.alike hK, hD⟩, hS.F ht⟩) hS.2.2 d_O_primitive_165
    · refine lv_if_eq (tgt := 164) hx hb d_O_primitive_123 (by decide) (fun hc => absurd hc (show ¬ nI 1 = 0 from by decide)) (fun _ => ?_)
      refine lv_lload hx hb d_O_primitive_126 (lv_at hl 3 rfl) ?_
      refine lv_lconst (v := lN 1) hx hb d_O_primitive_128 (by decide) ?_
      refine W.lcmp hx hb d_O_primitive_129 ?_
      refine lv_if_eq (tgt := 160) hx hb d_O_primitive_130 (by decide) (fun h1 => ?_) (fun h1 => ?_)
      · have h1 : rs = 1 := (lN_eqI (b := 1) (by omega) (by decide)).mp (cmq_eq h1)
        refine lv_iconst (v := nI 1) hx hb d_O_primitive_160 (by decide) ?_
        refine lv_goto (tgt := 165) hx hb d_O_primitive_161 (by decide) ?_
        have hP := hP.sub (ws' := [(o0, .inr (4, [.int (nI 0), .long (lN p), .int (nI n), .long (lN vr), .int (nI ir), .long (lN od), .int (nI cc), .ref g1, .int (nI gc), .ref g2, .ref g3, .ref g4, .int (nI oc), .ref g5, .ref g6, .ref g7, .ref g8]))]) [0] rfl
        have hD := hD.sub (ws' := [(o0, .inr (4, [.int (nI 0), .long (lN p), .int (nI n), .long (lN vr), .int (nI ir), .long (lN od), .int (nI cc), .ref g1, .int (nI gc), .ref g2, .ref g3, .ref g4, .int (nI oc), .ref g5, .ref g6, .ref g7, .ref g8]))]) [0] (by decide) rfl
        exact W.zret (v := nI 1) hx hb hr (rfl) (fun t9 ht hW => ⟨⟨nI 1, (), rfl, Or.inl ⟨rfl, hend.mp ⟨rfl, Or.inl h1⟩⟩, by rw [ht]; exact hP, va_K.moved hW.alike hK, hD⟩, hS.F ht⟩) hS.2.2 d_O_primitive_165
      · have h1 : rs ≠ 1 := fun z => h1 ((lg_cmp_eq _ _).mpr (by rw [z]))
        refine lv_lload hx hb d_O_primitive_133 (lv_at hl 3 rfl) ?_
        refine lv_lload_n hx hb d_O_primitive_135 rfl (lv_at hl 1 rfl) ?_
        refine W.lcmp hx hb d_O_primitive_136 ?_
        refine lv_if_ne (tgt := 146) hx hb d_O_primitive_137 (by decide) (fun h2 => ?_) (fun h2 => ?_)
        · have h2 : rs ≠ all := fun z => cmq_ne h2 (by rw [z])
          have hne : ¬ lN rs = 0 := fun z => absurd ((lN_eqI (b := 0) (by omega) (by decide)).mp z) (by omega)
          refine lv_aload_n hx hb d_O_primitive_146 rfl (lv_at hl 0 rfl) ?_
          refine lv_lload_n hx hb d_O_primitive_147 rfl (lv_at hl 2 rfl) ?_
          refine lv_lload_n hx hb d_O_primitive_148 rfl (lv_at hl 1 rfl) ?_
          refine lv_lload hx hb d_O_primitive_149 (lv_at hl 3 rfl) ?_
          refine lv_ldiv hx hb d_O_primitive_151 (hne) ?_
          refine lv_topl (nm_r (show _ = lN (all / rs) from pk_lDiv (by omega) hrs0 (by omega)) ?_)
          refine vp_callSl (va_Run.run (va_runV (As := [.long (lN (px_r p 2)), .long (lN (all / rs))]) (rest := []) ⟨hx, hb, hml, hown, hts⟩ (c_O_raised l dC dI cI cL o0 g1 g2 g3 g4 g5 g6 g7 g8 0 p n vr ir od cc gc oc hm (px_r p 2) (all / rs) (px_r_lt hm 2) (Nat.lt_of_le_of_lt (Nat.div_le_self _ _) (by omega))) (cwV 2 hts (gi_V kw_617 kw_619 ks_O_raised kw_5 gi_O_raised) rfl rfl rfl ⟨rfl, by decide, by decide, by decide⟩ ⟨Nat.le_of_ble_eq_true rfl, Nat.le_of_ble_eq_true rfl⟩) (wq_preVR hP hK hN [0] rfl (q0 := 0) (ci := 4) rfl rfl rfl) rfl rfl hl.1 rfl (lv_room (Nat.le_of_ble_eq_true rfl)) d_O_primitive_152 ⟨Nat.le_of_ble_eq_true rfl, Nat.le_of_ble_eq_true rfl⟩)) (fun r8 hq8 => ?_)
          have hq8 : r8 = lN (px_r p (2 ^ (all / rs))) := by rw [hq8, xp_eq hm]
          subst hq8
          refine lv_lconst (v := lN 1) hx hb d_O_primitive_155 (by decide) ?_
          refine W.lcmp hx hb d_O_primitive_156 ?_
          refine lv_if_eq (tgt := 164) hx hb d_O_primitive_157 (by decide) (fun h3 => ?_) (fun h3 => ?_)
          · have h3 : oo p (all / rs) = true := (oo_1 hm _).mp (cmq_eq h3)
            refine lv_iconst (v := nI 0) hx hb d_O_primitive_164 (by decide) ?_
            have hP := hP.sub (ws' := [(o0, .inr (4, [.int (nI 0), .long (lN p), .int (nI n), .long (lN vr), .int (nI ir), .long (lN od), .int (nI cc), .ref g1, .int (nI gc), .ref g2, .ref g3, .ref g4, .int (nI oc), .ref g5, .ref g6, .ref g7, .ref g8]))]) [0] rfl
            have hD := hD.sub (ws' := [(o0, .inr (4, [.int (nI 0), .long (lN p), .int (nI n), .long (lN vr), .int (nI ir), .long (lN od), .int (nI cc), .ref g1, .int (nI gc), .ref g2, .ref g3, .ref g4, .int (nI oc), .ref g5, .ref g6, .ref g7, .ref g8]))]) [0] (by decide) rfl
            exact W.zret (v := nI 0) hx hb hr (rfl) (fun t9 ht hW => ⟨⟨nI 0, (), rfl, Or.inr ⟨rfl, fun z => (hend.mpr z).2.elim h1 (fun q => q.elim (fun q2 => h2 q2.1) (fun q2 => by rw [h3] at q2; cases q2))⟩, by rw [ht]; exact hP, va_K.moved hW.alike hK, hD⟩, hS.F ht⟩) hS.2.2 d_O_primitive_165
          · have h3 : oo p (all / rs) = false := (oo_0 hm _).mp (cmq_ne h3)
            refine lv_iconst (v := nI 1) hx hb d_O_primitive_160 (by decide) ?_
            refine lv_goto (tgt := 165) hx hb d_O_primitive_161 (by decide) ?_
            have hP := hP.sub (ws' := [(o0, .inr (4, [.int (nI 0), .long (lN p), .int (nI n), .long (lN vr), .int (nI ir), .long (lN od), .int (nI cc), .ref g1, .int (nI gc), .ref g2, .ref g3, .ref g4, .int (nI oc), .ref g5, .ref g6, .ref g7, .ref g8]))]) [0] rfl
            have hD := hD.sub (ws' := [(o0, .inr (4, [.int (nI 0), .long (lN p), .int (nI n), .long (lN vr), .int (nI ir), .long (lN od), .int (nI cc), .ref g1, .int (nI gc), .ref g2, .ref g3, .ref g4, .int (nI oc), .ref g5, .ref g6, .ref g7, .ref g8]))]) [0] (by decide) rfl
            exact W.zret (v := nI 1) hx hb hr (rfl) (fun t9 ht hW => ⟨⟨nI 1, (), rfl, Or.inl ⟨rfl, hend.mp ⟨rfl, Or.inr (Or.inr h3)⟩⟩, by rw [ht]; exact hP, va_K.moved hW.alike hK, hD⟩, hS.F ht⟩) hS.2.2 d_O_primitive_165
        · have h2 : rs = all := (lN_eqI (by omega) (by omega)).mp (cmq_eq h2)
          refine lv_lload_n hx hb d_O_primitive_140 rfl (lv_at hl 1 rfl) ?_
          refine lv_lconst (v := lN 1) hx hb d_O_primitive_141 (by decide) ?_
          refine W.lcmp hx hb d_O_primitive_142 ?_
          refine lv_if_eq (tgt := 160) hx hb d_O_primitive_143 (by decide) (fun h4 => ?_) (fun h4 => ?_)
          · have h4 : all = 1 := (lN_eqI (b := 1) (by omega) (by decide)).mp (cmq_eq h4)
            refine lv_iconst (v := nI 1) hx hb d_O_primitive_160 (by decide) ?_
            refine lv_goto (tgt := 165) hx hb d_O_primitive_161 (by decide) ?_
            have hP := hP.sub (ws' := [(o0, .inr (4, [.int (nI 0), .long (lN p), .int (nI n), .long (lN vr), .int (nI ir), .long (lN od), .int (nI cc), .ref g1, .int (nI gc), .ref g2, .ref g3, .ref g4, .int (nI oc), .ref g5, .ref g6, .ref g7, .ref g8]))]) [0] rfl
            have hD := hD.sub (ws' := [(o0, .inr (4, [.int (nI 0), .long (lN p), .int (nI n), .long (lN vr), .int (nI ir), .long (lN od), .int (nI cc), .ref g1, .int (nI gc), .ref g2, .ref g3, .ref g4, .int (nI oc), .ref g5, .ref g6, .ref g7, .ref g8]))]) [0] (by decide) rfl
            exact W.zret (v := nI 1) hx hb hr (rfl) (fun t9 ht hW => ⟨⟨nI 1, (), rfl, Or.inl ⟨rfl, hend.mp ⟨rfl, Or.inr (Or.inl ⟨h2, h4⟩)⟩⟩, by rw [ht]; exact hP, va_K.moved hW.alike hK, hD⟩, hS.F ht⟩) hS.2.2 d_O_primitive_165
          · have h4 : all ≠ 1 := fun z => h4 ((lg_cmp_eq _ _).mpr (by rw [z]))
            have hne : ¬ lN rs = 0 := fun z => absurd ((lN_eqI (b := 0) (by omega) (by decide)).mp z) (by omega)
            refine lv_aload_n hx hb d_O_primitive_146 rfl (lv_at hl 0 rfl) ?_
            refine lv_lload_n hx hb d_O_primitive_147 rfl (lv_at hl 2 rfl) ?_
            refine lv_lload_n hx hb d_O_primitive_148 rfl (lv_at hl 1 rfl) ?_
            refine lv_lload hx hb d_O_primitive_149 (lv_at hl 3 rfl) ?_
            refine lv_ldiv hx hb d_O_primitive_151 (hne) ?_
            refine lv_topl (nm_r (show _ = lN (all / rs) from pk_lDiv (by omega) hrs0 (by omega)) ?_)
            refine vp_callSl (va_Run.run (va_runV (As := [.long (lN (px_r p 2)), .long (lN (all / rs))]) (rest := []) ⟨hx, hb, hml, hown, hts⟩ (c_O_raised l dC dI cI cL o0 g1 g2 g3 g4 g5 g6 g7 g8 0 p n vr ir od cc gc oc hm (px_r p 2) (all / rs) (px_r_lt hm 2) (Nat.lt_of_le_of_lt (Nat.div_le_self _ _) (by omega))) (cwV 2 hts (gi_V kw_617 kw_619 ks_O_raised kw_5 gi_O_raised) rfl rfl rfl ⟨rfl, by decide, by decide, by decide⟩ ⟨Nat.le_of_ble_eq_true rfl, Nat.le_of_ble_eq_true rfl⟩) (wq_preVR hP hK hN [0] rfl (q0 := 0) (ci := 4) rfl rfl rfl) rfl rfl hl.1 rfl (lv_room (Nat.le_of_ble_eq_true rfl)) d_O_primitive_152 ⟨Nat.le_of_ble_eq_true rfl, Nat.le_of_ble_eq_true rfl⟩)) (fun r8 hq8 => ?_)
            have hq8 : r8 = lN (px_r p (2 ^ (all / rs))) := by rw [hq8, xp_eq hm]
            subst hq8
            refine lv_lconst (v := lN 1) hx hb d_O_primitive_155 (by decide) ?_
            refine W.lcmp hx hb d_O_primitive_156 ?_
            refine lv_if_eq (tgt := 164) hx hb d_O_primitive_157 (by decide) (fun h3 => ?_) (fun h3 => ?_)
            · have h3 : oo p (all / rs) = true := (oo_1 hm _).mp (cmq_eq h3)
              refine lv_iconst (v := nI 0) hx hb d_O_primitive_164 (by decide) ?_
              have hP := hP.sub (ws' := [(o0, .inr (4, [.int (nI 0), .long (lN p), .int (nI n), .long (lN vr), .int (nI ir), .long (lN od), .int (nI cc), .ref g1, .int (nI gc), .ref g2, .ref g3, .ref g4, .int (nI oc), .ref g5, .ref g6, .ref g7, .ref g8]))]) [0] rfl
              have hD := hD.sub (ws' := [(o0, .inr (4, [.int (nI 0), .long (lN p), .int (nI n), .long (lN vr), .int (nI ir), .long (lN od), .int (nI cc), .ref g1, .int (nI gc), .ref g2, .ref g3, .ref g4, .int (nI oc), .ref g5, .ref g6, .ref g7, .ref g8]))]) [0] (by decide) rfl
              exact W.zret (v := nI 0) hx hb hr (rfl) (fun t9 ht hW => ⟨⟨nI 0, (), rfl, Or.inr ⟨rfl, fun z => (hend.mpr z).2.elim h1 (fun q => q.elim (fun q2 => h4 q2.2) (fun q2 => by rw [h3] at q2; cases q2))⟩, by rw [ht]; exact hP, va_K.moved hW.alike hK, hD⟩, hS.F ht⟩) hS.2.2 d_O_primitive_165
            · have h3 : oo p (all / rs) = false := (oo_0 hm _).mp (cmq_ne h3)
              refine lv_iconst (v := nI 1) hx hb d_O_primitive_160 (by decide) ?_
              refine lv_goto (tgt := 165) hx hb d_O_primitive_161 (by decide) ?_
              have hP := hP.sub (ws' := [(o0, .inr (4, [.int (nI 0), .long (lN p), .int (nI n), .long (lN vr), .int (nI ir), .long (lN od), .int (nI cc), .ref g1, .int (nI gc), .ref g2, .ref g3, .ref g4, .int (nI oc), .ref g5, .ref g6, .ref g7, .ref g8]))]) [0] rfl
              have hD := hD.sub (ws' := [(o0, .inr (4, [.int (nI 0), .long (lN p), .int (nI n), .long (lN vr), .int (nI ir), .long (lN od), .int (nI cc), .ref g1, .int (nI gc), .ref g2, .ref g3, .ref g4, .int (nI oc), .ref g5, .ref g6, .ref g7, .ref g8]))]) [0] (by decide) rfl
              exact W.zret (v := nI 1) hx hb hr (rfl) (fun t9 ht hW => ⟨⟨nI 1, (), rfl, Or.inl ⟨rfl, hend.mp ⟨rfl, Or.inr (Or.inr h3)⟩⟩, by rw [ht]; exact hP, va_K.moved hW.alike hK, hD⟩, hS.F ht⟩) hS.2.2 d_O_primitive_165
  have loop : ∀ (j q rs : Nat) (b : Bool), 2 ≤ q → q + j = 65538 → td_I (oo p) all q rs b → px_o p all → ∀ (H : Heap) (locs : List Loc), va_P (dC, dI) classes [(o0, .inr (4, [.int (nI 0), .long (lN p), .int (nI n), .long (lN vr), .int (nI ir), .long (lN od), .int (nI cc), .ref g1, .int (nI gc), .ref g2, .ref g3, .ref g4, .int (nI oc), .ref g5, .ref g6, .ref g7, .ref g8]))] H → va_D A [(o0, .inr (4, [.int (nI 0), .long (lN p), .int (nI n), .long (lN vr), .int (nI ir), .long (lN od), .int (nI cc), .ref g1, .int (nI gc), .ref g2, .ref g3, .ref g4, .int (nI oc), .ref g5, .ref g6, .ref g7, .ref g8]))] → va_S A st.heap H locs → ∀ (ls : Array Slot), lv_has ls 10 [(0, .ref o0), (1, .long (lN all)), (3, .long (lN (px_r p 2))), (5, .long (lN rs)), (7, .int (nI (Bool.toNat b))), (8, .long (lN q))] → W pg l en (headSpec w_O_primitive ({ frames := 3, cells := 0, slots := 0, locals := 78 } : Room)).room st mm ([.ref o0] : List Value).toArray bw me co H locs 0 0 (MQ bw (va_Qi (fun (r : Int32) (u : Unit) => (r = 1 ∧ px_ord p (2 ^ n - 1)) ∨ (r = 0 ∧ ¬ px_ord p (2 ^ n - 1))) (fun (u : Unit) t => wq_B (dC, dI) classes [(cI, .int), (cL, .long)] A [(o0, .inr (4, [.int (nI 0), .long (lN p), .int (nI n), .long (lN vr), .int (nI ir), .long (lN od), .int (nI cc), .ref g1, .int (nI gc), .ref g2, .ref g3, .ref g4, .int (nI oc), .ref g5, .ref g6, .ref g7, .ref g8]))] t) A) ([.ref o0] : List Value).toArray st 0 0 A) (F0 mm 46 ls []) := by
    intro j
    induction j with
    | zero =>
      intro q rs b hq2 hqj hI hpo H locs hP hD hS ls hl
      have hqe : q = 65538 := by omega
      have hqq : all < q * q := by rw [hqe]; omega
      have hq63 : q * q < 2 ^ 63 := by rw [hqe]; decide
      refine lv_lload hx hb d_O_primitive_46 (lv_at hl 5 rfl) ?_
      refine lv_lload hx hb d_O_primitive_48 (lv_at hl 5 rfl) ?_
      refine lv_lmul hx hb d_O_primitive_50 ?_
      refine lv_topl (nm_r (show _ = lN (q * q) from lN_mul q q) ?_)
      refine lv_lload_n hx hb d_O_primitive_51 rfl (lv_at hl 1 rfl) ?_
      refine W.lcmp hx hb d_O_primitive_52 ?_
      refine lv_if_gt (tgt := 121) hx hb d_O_primitive_53 (by decide) (fun hc => ?_) (fun hc => ?_)
      · exact fin q rs b hqq hI hpo H locs hP hD hS ls hl
      · exact absurd ((lg_cmp_gt _ _).mpr ((lN_lt63 (by omega) hq63).mpr hqq)) hc
    | succ j ih =>
      intro q rs b hq2 hqj hI hpo H locs hP hD hS ls hl
      have hq63 : q * q < 2 ^ 63 := Nat.lt_of_le_of_lt (Nat.mul_le_mul (show q ≤ 65538 by omega) (show q ≤ 65538 by omega)) (by decide)
      have hrs0 := hI.1
      have hrsl : rs ≤ all := Nat.le_of_dvd ha1 hI.2.1
      have htn := td_turn ha1 (by omega) hq2 hI
      have hne : ¬ lN q = 0 := fun z => absurd ((lN_eqI (b := 0) (by omega) (by decide)).mp z) (by omega)
      have div : ∀ (b2 : Bool) (f r2 : Nat), 0 < r2 → r2 < 2 ^ f → f ≤ 64 → r2 < 2 ^ 32 → td_I (oo p) all (q + 1) (td_1 q f r2) b2 → ∀ (H : Heap) (locs : List Loc), va_P (dC, dI) classes [(o0, .inr (4, [.int (nI 0), .long (lN p), .int (nI n), .long (lN vr), .int (nI ir), .long (lN od), .int (nI cc), .ref g1, .int (nI gc), .ref g2, .ref g3, .ref g4, .int (nI oc), .ref g5, .ref g6, .ref g7, .ref g8]))] H → va_D A [(o0, .inr (4, [.int (nI 0), .long (lN p), .int (nI n), .long (lN vr), .int (nI ir), .long (lN od), .int (nI cc), .ref g1, .int (nI gc), .ref g2, .ref g3, .ref g4, .int (nI oc), .ref g5, .ref g6, .ref g7, .ref g8]))] → va_S A st.heap H locs → ∀ (ls : Array Slot), lv_has ls 10 [(0, .ref o0), (1, .long (lN all)), (3, .long (lN (px_r p 2))), (5, .long (lN r2)), (7, .int (nI (Bool.toNat b2))), (8, .long (lN q))] → W pg l en (headSpec w_O_primitive ({ frames := 3, cells := 0, slots := 0, locals := 78 } : Room)).room st mm ([.ref o0] : List Value).toArray bw me co H locs 0 0 (MQ bw (va_Qi (fun (r : Int32) (u : Unit) => (r = 1 ∧ px_ord p (2 ^ n - 1)) ∨ (r = 0 ∧ ¬ px_ord p (2 ^ n - 1))) (fun (u : Unit) t => wq_B (dC, dI) classes [(cI, .int), (cL, .long)] A [(o0, .inr (4, [.int (nI 0), .long (lN p), .int (nI n), .long (lN vr), .int (nI ir), .long (lN od), .int (nI cc), .ref g1, .int (nI gc), .ref g2, .ref g3, .ref g4, .int (nI oc), .ref g5, .ref g6, .ref g7, .ref g8]))] t) A) ([.ref o0] : List Value).toArray st 0 0 A) (F0 mm 92 ls []) := by
        intro b2 f
        induction f with
        | zero =>
          intro r2 h1 h2 h3 h4 hI2 H locs hP hD hS ls hl
          exact absurd h2 (by simp; omega)
        | succ f ih2 =>
          intro r2 h1 h2 h3 h4 hI2 H locs hP hD hS ls hl
          refine lv_lload hx hb d_O_primitive_92 (lv_at hl 3 rfl) ?_
          refine lv_lload hx hb d_O_primitive_94 (lv_at hl 5 rfl) ?_
          refine lv_lrem hx hb d_O_primitive_96 (hne) ?_
          refine lv_topl (nm_r (show _ = lN (r2 % q) from pk_lRem (by omega) (by omega) (by omega)) ?_)
          refine lv_lconst (v := lN 0) hx hb d_O_primitive_97 (by decide) ?_
          refine W.lcmp hx hb d_O_primitive_98 ?_
          refine lv_if_ne (tgt := 112) hx hb d_O_primitive_99 (by decide) (fun hd => ?_) (fun hd => ?_)
          · have hd : ¬ r2 % q = 0 := fun z => cmq_ne hd (by rw [z])
            have e9 : td_1 q (f + 1) r2 = r2 := by simp only [td_1, hd, if_false]
            rw [e9] at hI2
            refine lv_lload hx hb d_O_primitive_112 (lv_at hl 5 rfl) ?_
            refine lv_lconst (v := lN 1) hx hb d_O_primitive_114 (by decide) ?_
            refine lv_ladd hx hb d_O_primitive_115 ?_
            refine lv_topl (nm_r (show _ = lN (q + 1) from lN_add q 1) ?_)
            refine lv_lstore (lv' := [(8, .long (lN (q + 1))), (0, .ref o0), (1, .long (lN all)), (3, .long (lN (px_r p 2))), (5, .long (lN r2)), (7, .int (nI (Bool.toNat b2)))]) hx hb d_O_primitive_116 hl (by decide) rfl (fun ls hl => ?_)
            refine lv_goto (tgt := 46) hx hb d_O_primitive_118 (by decide) ?_
            have hl := lv_sub (l' := [(0, .ref o0), (1, .long (lN all)), (3, .long (lN (px_r p 2))), (5, .long (lN r2)), (7, .int (nI (Bool.toNat b2))), (8, .long (lN (q + 1)))]) hl [1, 2, 3, 4, 5, 0] rfl
            exact ih (q + 1) r2 b2 (by omega) (by omega) hI2 hpo H locs hP hD hS ls hl
          · have hd : r2 % q = 0 := (lN_eqI (b := 0) (Nat.lt_of_le_of_lt (Nat.mod_le _ _) (by omega)) (by decide)).mp (cmq_eq hd)
            have e9 : td_1 q (f + 1) r2 = td_1 q f (r2 / q) := by simp only [td_1, hd, if_true]
            rw [e9] at hI2
            have hqr : q ≤ r2 := Nat.le_of_dvd h1 (Nat.dvd_of_mod_eq_zero hd)
            have hh : r2 / q ≤ r2 / 2 := Nat.div_le_div_left hq2 (by decide)
            have hpw : r2 / 2 < 2 ^ f := by rw [Nat.pow_succ] at h2; omega
            refine lv_lload hx hb d_O_primitive_102 (lv_at hl 3 rfl) ?_
            refine lv_lload hx hb d_O_primitive_104 (lv_at hl 5 rfl) ?_
            refine lv_ldiv hx hb d_O_primitive_106 (hne) ?_
            refine lv_topl (nm_r (show _ = lN (r2 / q) from pk_lDiv (by omega) (by omega) (by omega)) ?_)
            refine lv_lstore (lv' := [(5, .long (lN (r2 / q))), (0, .ref o0), (1, .long (lN all)), (3, .long (lN (px_r p 2))), (7, .int (nI (Bool.toNat b2))), (8, .long (lN q))]) hx hb d_O_primitive_107 hl (by decide) rfl (fun ls hl => ?_)
            refine lv_goto (tgt := 92) hx hb d_O_primitive_109 (by decide) ?_
            have hl := lv_sub (l' := [(0, .ref o0), (1, .long (lN all)), (3, .long (lN (px_r p 2))), (5, .long (lN (r2 / q))), (7, .int (nI (Bool.toNat b2))), (8, .long (lN q))]) hl [1, 2, 3, 0, 4, 5] rfl
            exact ih2 (r2 / q) (Nat.div_pos hqr (by omega)) (by omega) (by omega) (by omega) hI2 H locs hP hD hS ls hl
      refine lv_lload hx hb d_O_primitive_46 (lv_at hl 5 rfl) ?_
      refine lv_lload hx hb d_O_primitive_48 (lv_at hl 5 rfl) ?_
      refine lv_lmul hx hb d_O_primitive_50 ?_
      refine lv_topl (nm_r (show _ = lN (q * q) from lN_mul q q) ?_)
      refine lv_lload_n hx hb d_O_primitive_51 rfl (lv_at hl 1 rfl) ?_
      refine W.lcmp hx hb d_O_primitive_52 ?_
      refine lv_if_gt (tgt := 121) hx hb d_O_primitive_53 (by decide) (fun hc => ?_) (fun hc => ?_)
      · exact fin q rs b ((lN_lt63 (by omega) hq63).mp ((lg_cmp_gt _ _).mp hc)) hI hpo H locs hP hD hS ls hl
      · refine lv_lload hx hb d_O_primitive_56 (lv_at hl 3 rfl) ?_
        refine lv_lload hx hb d_O_primitive_58 (lv_at hl 5 rfl) ?_
        refine lv_lrem hx hb d_O_primitive_60 (hne) ?_
        refine lv_topl (nm_r (show _ = lN (rs % q) from pk_lRem (by omega) (by omega) (by omega)) ?_)
        refine lv_lconst (v := lN 0) hx hb d_O_primitive_61 (by decide) ?_
        refine W.lcmp hx hb d_O_primitive_62 ?_
        refine lv_if_ne (tgt := 92) hx hb d_O_primitive_63 (by decide) (fun hd => ?_) (fun hd => ?_)
        · have hd : ¬ rs % q = 0 := fun z => cmq_ne hd (by rw [z])
          rw [if_neg hd] at htn
          have hl := lv_sub (l' := [(0, .ref o0), (1, .long (lN all)), (3, .long (lN (px_r p 2))), (5, .long (lN rs)), (7, .int (nI (Bool.toNat b))), (8, .long (lN q))]) hl [0, 1, 2, 3, 4, 5] rfl
          exact div b 64 rs hrs0 (by omega) (by decide) (by omega) htn H locs hP hD hS ls hl
        · have hd : rs % q = 0 := (lN_eqI (b := 0) (Nat.lt_of_le_of_lt (Nat.mod_le _ _) (by omega)) (by decide)).mp (cmq_eq hd)
          rw [if_pos hd] at htn
          refine lv_iload hx hb d_O_primitive_66 (lv_at hl 4 rfl) ?_
          cases b
          · refine lv_if_eq (tgt := 89) hx hb d_O_primitive_68 (by decide) (fun _ => ?_) (fun hc => absurd hc (fun z => z rfl))
            refine lv_iconst (v := nI 0) hx hb d_O_primitive_89 (by decide) ?_
            refine lv_topi (nm_r (show _ = nI (Bool.toNat false) from rfl) ?_)
            refine lv_istore (lv' := [(7, .int (nI (Bool.toNat false))), (0, .ref o0), (1, .long (lN all)), (3, .long (lN (px_r p 2))), (5, .long (lN rs)), (8, .long (lN q))]) hx hb d_O_primitive_90 hl (by decide) rfl (fun ls hl => ?_)
            have hl := lv_sub (l' := [(0, .ref o0), (1, .long (lN all)), (3, .long (lN (px_r p 2))), (5, .long (lN rs)), (7, .int (nI (Bool.toNat false))), (8, .long (lN q))]) hl [1, 2, 3, 4, 0, 5] rfl
            exact div false 64 rs hrs0 (by omega) (by decide) (by omega) htn H locs hP hD hS ls hl
          · refine lv_if_eq (tgt := 89) hx hb d_O_primitive_68 (by decide) (fun hc => absurd hc (show ¬ nI 1 = 0 from by decide)) (fun _ => ?_)
            refine lv_aload_n hx hb d_O_primitive_71 rfl (lv_at hl 0 rfl) ?_
            refine lv_lload_n hx hb d_O_primitive_72 rfl (lv_at hl 2 rfl) ?_
            refine lv_lload_n hx hb d_O_primitive_73 rfl (lv_at hl 1 rfl) ?_
            refine lv_lload hx hb d_O_primitive_74 (lv_at hl 5 rfl) ?_
            refine lv_ldiv hx hb d_O_primitive_76 (hne) ?_
            refine lv_topl (nm_r (show _ = lN (all / q) from pk_lDiv (by omega) (by omega) (by omega)) ?_)
            refine vp_callSl (va_Run.run (va_runV (As := [.long (lN (px_r p 2)), .long (lN (all / q))]) (rest := []) ⟨hx, hb, hml, hown, hts⟩ (c_O_raised l dC dI cI cL o0 g1 g2 g3 g4 g5 g6 g7 g8 0 p n vr ir od cc gc oc hm (px_r p 2) (all / q) (px_r_lt hm 2) (Nat.lt_of_le_of_lt (Nat.div_le_self _ _) (by omega))) (cwV 2 hts (gi_V kw_617 kw_619 ks_O_raised kw_5 gi_O_raised) rfl rfl rfl ⟨rfl, by decide, by decide, by decide⟩ ⟨Nat.le_of_ble_eq_true rfl, Nat.le_of_ble_eq_true rfl⟩) (wq_preVR hP hK hN [0] rfl (q0 := 0) (ci := 4) rfl rfl rfl) rfl rfl hl.1 rfl (lv_room (Nat.le_of_ble_eq_true rfl)) d_O_primitive_77 ⟨Nat.le_of_ble_eq_true rfl, Nat.le_of_ble_eq_true rfl⟩)) (fun r8 hq8 => ?_)
            have hq8 : r8 = lN (px_r p (2 ^ (all / q))) := by rw [hq8, xp_eq hm]
            subst hq8
            refine lv_lconst (v := lN 1) hx hb d_O_primitive_80 (by decide) ?_
            refine W.lcmp hx hb d_O_primitive_81 ?_
            refine lv_if_eq (tgt := 89) hx hb d_O_primitive_82 (by decide) (fun h3 => ?_) (fun h3 => ?_)
            · have h3 : oo p (all / q) = true := (oo_1 hm _).mp (cmq_eq h3)
              rw [h3] at htn
              refine lv_iconst (v := nI 0) hx hb d_O_primitive_89 (by decide) ?_
              refine lv_topi (nm_r (show _ = nI (Bool.toNat false) from rfl) ?_)
              refine lv_istore (lv' := [(7, .int (nI (Bool.toNat false))), (0, .ref o0), (1, .long (lN all)), (3, .long (lN (px_r p 2))), (5, .long (lN rs)), (8, .long (lN q))]) hx hb d_O_primitive_90 hl (by decide) rfl (fun ls hl => ?_)
              have hl := lv_sub (l' := [(0, .ref o0), (1, .long (lN all)), (3, .long (lN (px_r p 2))), (5, .long (lN rs)), (7, .int (nI (Bool.toNat false))), (8, .long (lN q))]) hl [1, 2, 3, 4, 0, 5] rfl
              exact div false 64 rs hrs0 (by omega) (by decide) (by omega) htn H locs hP hD hS ls hl
            · have h3 : oo p (all / q) = false := (oo_0 hm _).mp (cmq_ne h3)
              rw [h3] at htn
              refine lv_iconst (v := nI 1) hx hb d_O_primitive_85 (by decide) ?_
              refine lv_goto (tgt := 90) hx hb d_O_primitive_86 (by decide) ?_
              refine lv_topi (nm_r (show _ = nI (Bool.toNat true) from rfl) ?_)
              refine lv_istore (lv' := [(7, .int (nI (Bool.toNat true))), (0, .ref o0), (1, .long (lN all)), (3, .long (lN (px_r p 2))), (5, .long (lN rs)), (8, .long (lN q))]) hx hb d_O_primitive_90 hl (by decide) rfl (fun ls hl => ?_)
              have hl := lv_sub (l' := [(0, .ref o0), (1, .long (lN all)), (3, .long (lN (px_r p 2))), (5, .long (lN rs)), (7, .int (nI (Bool.toNat true))), (8, .long (lN q))]) hl [1, 2, 3, 4, 0, 5] rfl
              exact div true 64 rs hrs0 (by omega) (by decide) (by omega) htn H locs hP hD hS ls hl
  refine lv_aload_n hx hb d_O_primitive_0 rfl (lv_at hl 0 rfl) ?_
  refine lv_iconst (v := nI 0) hx hb d_O_primitive_1 (by decide) ?_
  refine va_put (D := (dC, dI)) (ci := 4) (v := .int (nI 0)) (ty := .int) (C := R_O) (T := F_O) (N := 17) hx hb hts in_O t_O t_O_ok n_O hown hK hP hD hS 0 rfl rfl 0 (by decide) (hts _ kw_528) (fun _ h9 => h9) rfl (by decide +kernel) rfl rfl (Nat.le_of_ble_eq_true rfl) d_O_primitive_2 (fun H locs hP hD hS => ?_)
  have hP : va_P (dC, dI) classes [(o0, .inr (4, [.int (nI 0), .long (lN p), .int (nI n), .long (lN vr), .int (nI ir), .long (lN od), .int (nI cc), .ref g1, .int (nI gc), .ref g2, .ref g3, .ref g4, .int (nI oc), .ref g5, .ref g6, .ref g7, .ref g8]))] H := hP
  have hD : va_D A [(o0, .inr (4, [.int (nI 0), .long (lN p), .int (nI n), .long (lN vr), .int (nI ir), .long (lN od), .int (nI cc), .ref g1, .int (nI gc), .ref g2, .ref g3, .ref g4, .int (nI oc), .ref g5, .ref g6, .ref g7, .ref g8]))] := hD
  refine lv_lconst (v := lN 1) hx hb d_O_primitive_5 (by decide) ?_
  refine lv_aload_n hx hb d_O_primitive_6 rfl (lv_at hl 0 rfl) ?_
  refine va_get (D := (dC, dI)) (ci := 4) (v := .int (nI n)) (C := R_O) (T := F_O) (N := 17) hx hb hts in_O hown hK hP 0 rfl rfl 2 (by decide) (hts _ kw_530) (fun _ h9 => h9) rfl d_O_primitive_7 ?_
  refine lv_lshl (v := lN (1 * 2 ^ n)) hx hb d_O_primitive_10 (wb_shl 1 (by omega)) ?_
  refine lv_topl (nm_r (show _ = lN (2 ^ n) from by rw [Nat.one_mul]) ?_)
  refine lv_lconst (v := lN 1) hx hb d_O_primitive_11 (by decide) ?_
  refine lv_lsub hx hb d_O_primitive_12 ?_
  refine lv_topl (nm_r (show _ = lN all from (lN_sub (b := 1) (by omega)).trans (congrArg lN hall)) ?_)
  refine lv_lstore_n (lv' := [(1, .long (lN all)), (0, .ref o0)]) hx hb d_O_primitive_13 rfl hl (by decide) rfl (fun ls hl => ?_)
  refine lv_aload_n hx hb d_O_primitive_14 rfl (lv_at hl 1 rfl) ?_
  refine lv_ldc2 (v := lN 2) hx hb hown (hts _ kw_612) d_O_primitive_15 ?_
  refine vp_callSl (va_Run.run (va_runV (As := [.long (lN 2)]) (rest := []) ⟨hx, hb, hml, hown, hts⟩ (c_O_reduced l dC dI cI cL o0 g1 g2 g3 g4 g5 g6 g7 g8 0 p n vr ir od cc gc oc hm 2 (by decide)) (cwV 1 hts (gi_V kw_621 kw_623 ks_O_reduced kw_5 gi_O_reduced) rfl rfl rfl ⟨rfl, by decide, by decide, by decide⟩ ⟨Nat.le_of_ble_eq_true rfl, Nat.le_of_ble_eq_true rfl⟩) (wq_preVR hP hK hN [0] rfl (q0 := 0) (ci := 4) rfl rfl rfl) rfl rfl hl.1 rfl (lv_room (Nat.le_of_ble_eq_true rfl)) d_O_primitive_18 ⟨Nat.le_of_ble_eq_true rfl, Nat.le_of_ble_eq_true rfl⟩)) (fun r hq => ?_)
  subst hq
  refine lv_lstore_n (lv' := [(3, .long (lN (px_r p 2))), (1, .long (lN all)), (0, .ref o0)]) hx hb d_O_primitive_21 rfl hl (by decide) rfl (fun ls hl => ?_)
  refine lv_aload_n hx hb d_O_primitive_22 rfl (lv_at hl 2 rfl) ?_
  refine lv_lload_n hx hb d_O_primitive_23 rfl (lv_at hl 0 rfl) ?_
  refine lv_lload_n hx hb d_O_primitive_24 rfl (lv_at hl 1 rfl) ?_
  refine vp_callSl (va_Run.run (va_runV (As := [.long (lN (px_r p 2)), .long (lN all)]) (rest := []) ⟨hx, hb, hml, hown, hts⟩ (c_O_raised l dC dI cI cL o0 g1 g2 g3 g4 g5 g6 g7 g8 0 p n vr ir od cc gc oc hm (px_r p 2) (all) (px_r_lt hm 2) (by omega)) (cwV 2 hts (gi_V kw_617 kw_619 ks_O_raised kw_5 gi_O_raised) rfl rfl rfl ⟨rfl, by decide, by decide, by decide⟩ ⟨Nat.le_of_ble_eq_true rfl, Nat.le_of_ble_eq_true rfl⟩) (wq_preVR hP hK hN [0] rfl (q0 := 0) (ci := 4) rfl rfl rfl) rfl rfl hl.1 rfl (lv_room (Nat.le_of_ble_eq_true rfl)) d_O_primitive_25 ⟨Nat.le_of_ble_eq_true rfl, Nat.le_of_ble_eq_true rfl⟩)) (fun r8 hq8 => ?_)
  have hq8 : r8 = lN (px_r p (2 ^ all)) := by rw [hq8, xp_eq hm]
  subst hq8
  refine lv_lconst (v := lN 1) hx hb d_O_primitive_28 (by decide) ?_
  refine W.lcmp hx hb d_O_primitive_29 ?_
  refine lv_if_eq (tgt := 35) hx hb d_O_primitive_30 (by decide) (fun h3 => ?_) (fun h3 => ?_)
  · have hpo : px_o p all := (oo_iff hm _).mp ((oo_1 hm _).mp (cmq_eq h3))
    refine lv_lload_n hx hb d_O_primitive_35 rfl (lv_at hl 1 rfl) ?_
    refine lv_lstore (lv' := [(5, .long (lN all)), (3, .long (lN (px_r p 2))), (1, .long (lN all)), (0, .ref o0)]) hx hb d_O_primitive_36 hl (by decide) rfl (fun ls hl => ?_)
    refine lv_iconst (v := nI 1) hx hb d_O_primitive_38 (by decide) ?_
    refine lv_istore (lv' := [(7, .int (nI 1)), (5, .long (lN all)), (3, .long (lN (px_r p 2))), (1, .long (lN all)), (0, .ref o0)]) hx hb d_O_primitive_39 hl (by decide) rfl (fun ls hl => ?_)
    refine lv_ldc2 (v := lN 2) hx hb hown (hts _ kw_612) d_O_primitive_41 ?_
    refine lv_lstore (lv' := [(8, .long (lN 2)), (7, .int (nI 1)), (5, .long (lN all)), (3, .long (lN (px_r p 2))), (1, .long (lN all)), (0, .ref o0)]) hx hb d_O_primitive_44 hl (by decide) rfl (fun ls hl => ?_)
    obtain ⟨b0, hb0⟩ : ∃ b0 : Bool, b0 = true := ⟨true, rfl⟩
    have e9 : (nI 1) = (nI (Bool.toNat b0)) := by rw [hb0]; rfl
    have hl : lv_has ls 10 [(8, .long (lN 2)), (7, .int (nI (Bool.toNat b0))), (5, .long (lN all)), (3, .long (lN (px_r p 2))), (1, .long (lN all)), (0, .ref o0)] := by rw [← e9]; exact hl
    have hl := lv_sub (l' := [(0, .ref o0), (1, .long (lN all)), (3, .long (lN (px_r p 2))), (5, .long (lN all)), (7, .int (nI (Bool.toNat b0))), (8, .long (lN 2))]) hl [5, 4, 3, 2, 1, 0] rfl
    exact loop 65536 2 all b0 (by decide) (by decide) (by rw [hb0]; exact td_start ha1) hpo H locs hP hD hS ls hl
  · have h3 : oo p all = false := (oo_0 hm _).mp (fun z => h3 ((lg_cmp_eq _ _).mpr z))
    refine lv_iconst (v := nI 0) hx hb d_O_primitive_33 (by decide) ?_
    have hP := hP.sub (ws' := [(o0, .inr (4, [.int (nI 0), .long (lN p), .int (nI n), .long (lN vr), .int (nI ir), .long (lN od), .int (nI cc), .ref g1, .int (nI gc), .ref g2, .ref g3, .ref g4, .int (nI oc), .ref g5, .ref g6, .ref g7, .ref g8]))]) [0] rfl
    have hD := hD.sub (ws' := [(o0, .inr (4, [.int (nI 0), .long (lN p), .int (nI n), .long (lN vr), .int (nI ir), .long (lN od), .int (nI cc), .ref g1, .int (nI gc), .ref g2, .ref g3, .ref g4, .int (nI oc), .ref g5, .ref g6, .ref g7, .ref g8]))]) [0] (by decide) rfl
    exact W.zret (v := nI 0) hx hb hr (rfl) (fun t9 ht hW => ⟨⟨nI 0, (), rfl, Or.inr ⟨rfl, fun z => by
        rw [hall] at z
        have h9 := (oo_iff hm all).mpr z.2.1
        rw [h3] at h9
        cases h9⟩, by rw [ht]; exact hP, va_K.moved hW.alike hK, hD⟩, hS.F ht⟩) hS.2.2 d_O_primitive_34
