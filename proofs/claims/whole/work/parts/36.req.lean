/-! contracts of ShiftSignatures: what it asks for; laid by a program -/
theorem nI_nn {m : Nat} (h : m < 2 ^ 31) : ¬ nI m < 0 := fun z => absurd ((nI_ltI (b := 0) h (by decide)).mp z) (Nat.not_lt_zero m)
theorem nI_m1 {m : Nat} (h : m < 2 ^ 31) : nI m ≠ -1 := fun e => nI_nn h (by rw [e]; decide)
theorem lc_neg {a : Nat} (h : a < 2 ^ 64) (hc : ¬ 0 ≤ lg_cmp (lN a) (lN 0)) : 2 ^ 63 ≤ a := by
  have h1 : lg_cmp (lN a) (lN 0) < 0 := Int32.not_le.mp hc
  exact (lN_neg h).mp ((lg_cmp_lt _ _).mp h1)
theorem lc_ge {a : Nat} (h : a < 2 ^ 64) (h2 : 2 ^ 63 ≤ a) (hc : 0 ≤ lg_cmp (lN a) (lN 0)) : False :=
  Int32.not_lt.mpr hc ((lg_cmp_lt _ _).mpr ((lN_neg h).mpr h2))
section XR
variable {p : Program} {l : Launch} {e : Env} {R : Room} {s : State} {m : MethodId} {args : Array Value} {below : List Frame} {meth : Method} {c : Code} {cells slots mc ms MC MS pc : Nat}
variable {ls : Array Slot} {rest st0 : List Value} {a : Array Value} {X : String} {Qc : Array Value → State → Outcome → State → Prop}
theorem xq_ci (hr : vx_Run p l e R s m args below meth c s.heap [] cells slots mc ms (F0 m pc ls st0) rest (xq_i s.heap.size a) (xq X s.heap.size) (fun q => s.heap.size ≤ q)) (hex : ∀ x ∈ c.exceptionTable.toList, False) (hlocks : meth.locks = false) (hc : cells + mc ≤ MC) (hs : slots + ms ≤ MS) :
    W p l e R s m args below meth c s.heap [] cells slots (vx_MQ below Qc (xq X s.heap.size) args s MC MS (fun q => s.heap.size ≤ q)) (F0 m pc ls st0) :=
  vx_calli hr (va_S.rf (A := fun q => s.heap.size ≤ q)) (fun _ _ h => h) (fun _ h => h) (fun _ _ h => h) (fun E ce q9 u t H1 locs1 _ _ _ hE hz hk hS h1 h2 h3 => xq_go hex hlocks hE hz hk hS h1 h2 h3 hc hs) (fun _ _ _ _ _ _ _ hp => hp.elim)
end XR
set_option maxHeartbeats 4000000 in
set_option maxRecDepth 100000 in
theorem c_S_requireResidue (l : Launch) (dC : Nat → ClassId) (dI : Nat → Nat → Nat) (cI cL : ClassId) (s0 m0 c0 e0 q1 : Nat) (vr p n a : Nat) (hm : md p n) (ha : a < 2 ^ n) : Met l y_S_requireResidue w_S_requireResidue ({ frames := 1, cells := 0, slots := 0, locals := 22 } : Room) (va_Pc [.ref s0, .long (lN a)] (wq_R (dC, dI) classes [(s0, .inr (0, [.ref m0, .ref c0, .ref e0, .ref q1, .long (lN vr)])), (m0, .inr (1, [.long (lN p), .int (nI n), .long (lN (px_r p 2))]))] [(cI, .int), (cL, .long)])) (va_Sv (fun _ => True)) 0 0 (fun _ => False) := by
  refine Met.ofW (cc := b_S_requireResidue) (maxL := 3) (ret := (Option.none : Option Jvm.ClassFile.FieldType)) (by decide) rfl ?_
  intro pg en st mm ar bw me co s₁ B hml hv
  obtain ⟨rfl, hP, hK, hN⟩ := hv
  have hx := B.exec
  have hb := B.bytes
  have hr := B.returns
  have hlocks := B.notSynchronized
  have hts0 := atoms_spec (ws := w_S_requireResidue) B.pre
  have hts : ∀ w ∈ gw, w.before _ st = true := fun w h => hts0 w (List.mem_cons_of_mem _ h)
  have hown : st.vm.findClass R_S = some mm.cls := findClass_of_methodNamed B.named
  have hl := lv_entry ([.ref s0, .long (lN a)]) (n := 3) (Nat.le_of_ble_eq_true rfl)
  rw [lg_entry_eq]
  generalize (lg_sl ([.ref s0, .long (lN a)]) ++ List.replicate (3 - (lg_sl ([.ref s0, .long (lN a)])).length) Slot.unset).toArray = ls at hl ⊢
  have hl : lv_has ls 3 [(0, .ref s0), (1, .long (lN a))] := hl
  refine lv_aload_n hx hb d_S_requireResidue_0 rfl (lv_at hl 0 rfl) ?_
  refine va_get (D := (dC, dI)) (ci := 0) (v := .ref m0) (C := R_S) (T := F_S) (N := 5) hx hb hts in_S hown hK hP 0 rfl rfl 0 (by decide) (hts _ kw_94) (fun _ h9 => h9) rfl d_S_requireResidue_1 ?_
  refine lv_lload_n hx hb d_S_requireResidue_4 rfl (lv_at hl 1 rfl) ?_
  refine vp_callSi (va_Run.run (va_runVN (As := [.long (lN a)]) (rest := []) ⟨hx, hb, hml, hown, hts⟩ (c_M_hasResidue l dC dI cI cL m0 p n a hm (by have := res_lt hm ha; omega)) ⟨va_cnB 1 hts gi_M_hasResidue rfl rfl rfl (hN _ kw_301) (hts _ kw_2) ⟨by decide, by decide, by decide⟩ ⟨Nat.le_of_ble_eq_true rfl, Nat.le_of_ble_eq_true rfl⟩, hts _ kw_303, hts _ ks_M_hasResidue⟩ (wq_preVR hP hK hN [1] rfl (q0 := 1) (ci := 1) rfl rfl rfl) rfl rfl hl.1 rfl (lv_room (Nat.le_of_ble_eq_true rfl)) d_S_requireResidue_5 ⟨Nat.le_of_ble_eq_true rfl, Nat.le_of_ble_eq_true rfl⟩)) (fun r hq => ?_)
  rw [if_pos ha] at hq
  subst hq
  refine lv_if_ne (tgt := 21) hx hb d_S_requireResidue_8 (by decide) (fun _ => ?_) (fun hc => absurd hc (show ¬ (1 : Int32) = 0 from by decide))
  exact W.vret hx hb hr (fun t ht hW => ⟨rfl, trivial, ht⟩) (fun _ h => nomatch h) d_S_requireResidue_21
set_option maxHeartbeats 4000000 in
set_option maxRecDepth 100000 in
theorem x_S_requireResidue (l : Launch) (dC : Nat → ClassId) (dI : Nat → Nat → Nat) (cI cL : ClassId) (hlt : l.stackTraces = false) (sz : Nat) (s0 m0 c0 e0 q1 : Nat) (vr p n a : Nat) (hm : md p n) (ha2 : a < 2 ^ 64) (ha : ¬ a < 2 ^ n) : vx_Met l y_S_requireResidue w_S_requireResidue ({ frames := 6, cells := 1, slots := 6, locals := 82 } : Room) (va_Pc [.ref s0, .long (lN a)] (wq_X (dC, dI) classes [(s0, .inr (0, [.ref m0, .ref c0, .ref e0, .ref q1, .long (lN vr)])), (m0, .inr (1, [.long (lN p), .int (nI n), .long (lN (px_r p 2))]))] [(cI, .int), (cL, .long)] sz)) (xq_v sz) (xq "java/lang/IllegalArgumentException" sz) 1 6 (fun q => sz ≤ q) := by
  refine vx_ofW (cc := b_S_requireResidue) (maxL := 3) (ret := (Option.none : Option Jvm.ClassFile.FieldType)) (by decide) rfl ?_
  intro pg en st mm ar bw me co s₁ B hml hex hv
  obtain ⟨rfl, hsz, ⟨hP, hK, hN⟩, hE, hZ⟩ := hv
  subst hsz
  have hx := B.exec
  have hb := B.bytes
  have hr := B.returns
  have hlocks := B.notSynchronized
  have hts0 := atoms_spec (ws := w_S_requireResidue) B.pre
  have hts : ∀ w ∈ gw, w.before _ st = true := fun w h => hts0 w (List.mem_cons_of_mem _ h)
  have hown : st.vm.findClass R_S = some mm.cls := findClass_of_methodNamed B.named
  have hl := lv_entry ([.ref s0, .long (lN a)]) (n := 3) (Nat.le_of_ble_eq_true rfl)
  rw [lg_entry_eq]
  generalize (lg_sl ([.ref s0, .long (lN a)]) ++ List.replicate (3 - (lg_sl ([.ref s0, .long (lN a)])).length) Slot.unset).toArray = ls at hl ⊢
  have hl : lv_has ls 3 [(0, .ref s0), (1, .long (lN a))] := hl
  refine lv_aload_n hx hb d_S_requireResidue_0 rfl (lv_at hl 0 rfl) ?_
  refine va_get (D := (dC, dI)) (ci := 0) (v := .ref m0) (C := R_S) (T := F_S) (N := 5) hx hb hts in_S hown hK hP 0 rfl rfl 0 (by decide) (hts _ kw_94) (fun _ h9 => h9) rfl d_S_requireResidue_1 ?_
  refine lv_lload_n hx hb d_S_requireResidue_4 rfl (lv_at hl 1 rfl) ?_
  refine vp_callSi (va_Run.run (va_runVN (As := [.long (lN a)]) (rest := []) ⟨hx, hb, hml, hown, hts⟩ (c_M_hasResidue l dC dI cI cL m0 p n a hm ha2) ⟨va_cnB 1 hts gi_M_hasResidue rfl rfl rfl (hN _ kw_301) (hts _ kw_2) ⟨by decide, by decide, by decide⟩ ⟨Nat.le_of_ble_eq_true rfl, Nat.le_of_ble_eq_true rfl⟩, hts _ kw_303, hts _ ks_M_hasResidue⟩ (wq_preVR hP hK hN [1] rfl (q0 := 1) (ci := 1) rfl rfl rfl) rfl rfl hl.1 rfl (lv_room (Nat.le_of_ble_eq_true rfl)) d_S_requireResidue_5 ⟨Nat.le_of_ble_eq_true rfl, Nat.le_of_ble_eq_true rfl⟩)) (fun r hq => ?_)
  rw [if_neg ha] at hq
  subst hq
  refine lv_if_ne (tgt := 21) hx hb d_S_requireResidue_8 (by decide) (fun hc => absurd hc (fun z => z rfl)) (fun _ => ?_)
  obtain ⟨sa, hstr⟩ := hE.2 _ xs_177
  exact vx_throwS (R := (headSpec w_S_requireResidue ({ frames := 6, cells := 1, slots := 6, locals := 82 } : Room)).room) (rest := []) (cells := 0) (slots := 0) (mc := 1) (ms := 6) (names := ["java/lang/RuntimeException", "java/lang/Exception"]) hx hb hlt hown (by decide) (by decide) (hts _ xt_IA_k) (hts _ xt_IA_i) hstr (xt_IA hts hE) xt_IA_o hZ.1 hZ.2 va_S.rf (hl.1.trans hml.symm) d_S_requireResidue_11 d_S_requireResidue_14 d_S_requireResidue_15 d_S_requireResidue_17 d_S_requireResidue_20 (fun x hx => (hex x hx).elim) (Nat.le_of_ble_eq_true rfl) (Nat.le_of_ble_eq_true rfl) (Nat.le_of_ble_eq_true rfl) (Nat.le_of_ble_eq_true rfl) hlocks xq_hx (fun _ h => nomatch h) (Nat.le_of_ble_eq_true rfl) (Nat.le_of_ble_eq_true rfl)
set_option maxHeartbeats 4000000 in
set_option maxRecDepth 100000 in
theorem c_S_requireNotNegative (l : Launch) (dC : Nat → ClassId) (dI : Nat → Nat → Nat) (cI cL : ClassId) (s0 m0 c0 e0 q1 : Nat) (vr a : Nat) (ha : a < 2 ^ 63) : Met l y_S_requireNotNegative w_S_requireNotNegative ({ frames := 0, cells := 0, slots := 0, locals := 0 } : Room) (va_Pc [.ref s0, .long (lN a)] (wq_R (dC, dI) classes [(s0, .inr (0, [.ref m0, .ref c0, .ref e0, .ref q1, .long (lN vr)]))] [(cI, .int), (cL, .long)])) (va_Sv (fun _ => True)) 0 0 (fun _ => False) := by
  refine Met.ofW (cc := b_S_requireNotNegative) (maxL := 3) (ret := (Option.none : Option Jvm.ClassFile.FieldType)) (by decide) rfl ?_
  intro pg en st mm ar bw me co s₁ B hml hv
  obtain ⟨rfl, hP, hK, hN⟩ := hv
  have hx := B.exec
  have hb := B.bytes
  have hr := B.returns
  have hlocks := B.notSynchronized
  have hts0 := atoms_spec (ws := w_S_requireNotNegative) B.pre
  have hts : ∀ w ∈ gw, w.before _ st = true := fun w h => hts0 w (List.mem_cons_of_mem _ h)
  have hown : st.vm.findClass R_S = some mm.cls := findClass_of_methodNamed B.named
  have hl := lv_entry ([.ref s0, .long (lN a)]) (n := 3) (Nat.le_of_ble_eq_true rfl)
  rw [lg_entry_eq]
  generalize (lg_sl ([.ref s0, .long (lN a)]) ++ List.replicate (3 - (lg_sl ([.ref s0, .long (lN a)])).length) Slot.unset).toArray = ls at hl ⊢
  have hl : lv_has ls 3 [(0, .ref s0), (1, .long (lN a))] := hl
  refine lv_lload_n hx hb d_S_requireNotNegative_0 rfl (lv_at hl 1 rfl) ?_
  refine lv_lconst (v := lN 0) hx hb d_S_requireNotNegative_1 (by decide) ?_
  refine W.lcmp hx hb d_S_requireNotNegative_2 ?_
  refine lv_if_ge (tgt := 16) hx hb d_S_requireNotNegative_3 (by decide) (fun _ => ?_) (fun hc => absurd hc (fun z => absurd (lc_neg (by omega) z) (by omega)))
  exact W.vret hx hb hr (fun t ht hW => ⟨rfl, trivial, ht⟩) (fun _ h => nomatch h) d_S_requireNotNegative_16
set_option maxHeartbeats 4000000 in
set_option maxRecDepth 100000 in
theorem x_S_requireNotNegative (l : Launch) (dC : Nat → ClassId) (dI : Nat → Nat → Nat) (cI cL : ClassId) (hlt : l.stackTraces = false) (sz : Nat) (s0 m0 c0 e0 q1 : Nat) (vr a : Nat) (ha2 : a < 2 ^ 64) (ha : ¬ a < 2 ^ 63) : vx_Met l y_S_requireNotNegative w_S_requireNotNegative ({ frames := 6, cells := 1, slots := 6, locals := 82 } : Room) (va_Pc [.ref s0, .long (lN a)] (wq_X (dC, dI) classes [(s0, .inr (0, [.ref m0, .ref c0, .ref e0, .ref q1, .long (lN vr)]))] [(cI, .int), (cL, .long)] sz)) (xq_v sz) (xq "java/lang/IllegalArgumentException" sz) 1 6 (fun q => sz ≤ q) := by
  refine vx_ofW (cc := b_S_requireNotNegative) (maxL := 3) (ret := (Option.none : Option Jvm.ClassFile.FieldType)) (by decide) rfl ?_
  intro pg en st mm ar bw me co s₁ B hml hex hv
  obtain ⟨rfl, hsz, ⟨hP, hK, hN⟩, hE, hZ⟩ := hv
  subst hsz
  have hx := B.exec
  have hb := B.bytes
  have hr := B.returns
  have hlocks := B.notSynchronized
  have hts0 := atoms_spec (ws := w_S_requireNotNegative) B.pre
  have hts : ∀ w ∈ gw, w.before _ st = true := fun w h => hts0 w (List.mem_cons_of_mem _ h)
  have hown : st.vm.findClass R_S = some mm.cls := findClass_of_methodNamed B.named
  have hl := lv_entry ([.ref s0, .long (lN a)]) (n := 3) (Nat.le_of_ble_eq_true rfl)
  rw [lg_entry_eq]
  generalize (lg_sl ([.ref s0, .long (lN a)]) ++ List.replicate (3 - (lg_sl ([.ref s0, .long (lN a)])).length) Slot.unset).toArray = ls at hl ⊢
  have hl : lv_has ls 3 [(0, .ref s0), (1, .long (lN a))] := hl
  refine lv_lload_n hx hb d_S_requireNotNegative_0 rfl (lv_at hl 1 rfl) ?_
  refine lv_lconst (v := lN 0) hx hb d_S_requireNotNegative_1 (by decide) ?_
  refine W.lcmp hx hb d_S_requireNotNegative_2 ?_
  refine lv_if_ge (tgt := 16) hx hb d_S_requireNotNegative_3 (by decide) (fun hc => absurd hc (fun z => lc_ge ha2 (by omega) z)) (fun _ => ?_)
  obtain ⟨sa, hstr⟩ := hE.2 _ xs_179
  exact vx_throwS (R := (headSpec w_S_requireNotNegative ({ frames := 6, cells := 1, slots := 6, locals := 82 } : Room)).room) (rest := []) (cells := 0) (slots := 0) (mc := 1) (ms := 6) (names := ["java/lang/RuntimeException", "java/lang/Exception"]) hx hb hlt hown (by decide) (by decide) (hts _ xt_IA_k) (hts _ xt_IA_i) hstr (xt_IA hts hE) xt_IA_o hZ.1 hZ.2 va_S.rf (hl.1.trans hml.symm) d_S_requireNotNegative_6 d_S_requireNotNegative_9 d_S_requireNotNegative_10 d_S_requireNotNegative_12 d_S_requireNotNegative_15 (fun x hx => (hex x hx).elim) (Nat.le_of_ble_eq_true rfl) (Nat.le_of_ble_eq_true rfl) (Nat.le_of_ble_eq_true rfl) (Nat.le_of_ble_eq_true rfl) hlocks xq_hx (fun _ h => nomatch h) (Nat.le_of_ble_eq_true rfl) (Nat.le_of_ble_eq_true rfl)
set_option maxHeartbeats 4000000 in
set_option maxRecDepth 100000 in
theorem c_S_requirePatterns (l : Launch) (dC : Nat → ClassId) (dI : Nat → Nat → Nat) (cI cL : ClassId) (s0 m0 c0 e0 q1 : Nat) (vr : Nat) (m : Nat) (hm : m ≤ 256) : Met l y_S_requirePatterns w_S_requirePatterns ({ frames := 0, cells := 0, slots := 0, locals := 0 } : Room) (va_Pc [.ref s0, .int (nI m)] (wq_R (dC, dI) classes [(s0, .inr (0, [.ref m0, .ref c0, .ref e0, .ref q1, .long (lN vr)]))] [(cI, .int), (cL, .long)])) (va_Sv (fun _ => True)) 0 0 (fun _ => False) := by
  refine Met.ofW (cc := b_S_requirePatterns) (maxL := 2) (ret := (Option.none : Option Jvm.ClassFile.FieldType)) (by decide) rfl ?_
  intro pg en st mm ar bw me co s₁ B hml hv
  obtain ⟨rfl, hP, hK, hN⟩ := hv
  have hx := B.exec
  have hb := B.bytes
  have hr := B.returns
  have hlocks := B.notSynchronized
  have hts0 := atoms_spec (ws := w_S_requirePatterns) B.pre
  have hts : ∀ w ∈ gw, w.before _ st = true := fun w h => hts0 w (List.mem_cons_of_mem _ h)
  have hown : st.vm.findClass R_S = some mm.cls := findClass_of_methodNamed B.named
  have hl := lv_entry ([.ref s0, .int (nI m)]) (n := 2) (Nat.le_of_ble_eq_true rfl)
  rw [lg_entry_eq]
  generalize (lg_sl ([.ref s0, .int (nI m)]) ++ List.replicate (2 - (lg_sl ([.ref s0, .int (nI m)])).length) Slot.unset).toArray = ls at hl ⊢
  have hl : lv_has ls 2 [(0, .ref s0), (1, .int (nI m))] := hl
  refine lv_iload_n hx hb d_S_requirePatterns_0 rfl (lv_at hl 1 rfl) ?_
  refine lv_if_lt (tgt := 11) hx hb d_S_requirePatterns_1 (by decide) (fun hc => absurd hc (nI_nn (by omega))) (fun _ => ?_)
  refine lv_iload_n hx hb d_S_requirePatterns_4 rfl (lv_at hl 1 rfl) ?_
  refine lv_sipush (v := nI 256) hx hb d_S_requirePatterns_5 (by decide) ?_
  refine lv_icmp_le (tgt := 21) hx hb d_S_requirePatterns_8 (by decide) (fun _ => ?_) (fun hc => absurd hc (fun z => z ((nI_leI (by omega) (by decide)).mpr hm)))
  exact W.vret hx hb hr (fun t ht hW => ⟨rfl, trivial, ht⟩) (fun _ h => nomatch h) d_S_requirePatterns_21
set_option maxHeartbeats 4000000 in
set_option maxRecDepth 100000 in
theorem x_S_requirePatterns (l : Launch) (dC : Nat → ClassId) (dI : Nat → Nat → Nat) (cI cL : ClassId) (hlt : l.stackTraces = false) (sz : Nat) (s0 m0 c0 e0 q1 : Nat) (vr : Nat) (y : Int32) (hy : y < 0 ∨ ¬ y ≤ nI 256) : vx_Met l y_S_requirePatterns w_S_requirePatterns ({ frames := 6, cells := 1, slots := 6, locals := 82 } : Room) (va_Pc [.ref s0, .int y] (wq_X (dC, dI) classes [(s0, .inr (0, [.ref m0, .ref c0, .ref e0, .ref q1, .long (lN vr)]))] [(cI, .int), (cL, .long)] sz)) (xq_v sz) (xq "java/lang/IllegalArgumentException" sz) 1 6 (fun q => sz ≤ q) := by
  refine vx_ofW (cc := b_S_requirePatterns) (maxL := 2) (ret := (Option.none : Option Jvm.ClassFile.FieldType)) (by decide) rfl ?_
  intro pg en st mm ar bw me co s₁ B hml hex hv
  obtain ⟨rfl, hsz, ⟨hP, hK, hN⟩, hE, hZ⟩ := hv
  subst hsz
  have hx := B.exec
  have hb := B.bytes
  have hr := B.returns
  have hlocks := B.notSynchronized
  have hts0 := atoms_spec (ws := w_S_requirePatterns) B.pre
  have hts : ∀ w ∈ gw, w.before _ st = true := fun w h => hts0 w (List.mem_cons_of_mem _ h)
  have hown : st.vm.findClass R_S = some mm.cls := findClass_of_methodNamed B.named
  have hl := lv_entry ([.ref s0, .int y]) (n := 2) (Nat.le_of_ble_eq_true rfl)
  rw [lg_entry_eq]
  generalize (lg_sl ([.ref s0, .int y]) ++ List.replicate (2 - (lg_sl ([.ref s0, .int y])).length) Slot.unset).toArray = ls at hl ⊢
  have hl : lv_has ls 2 [(0, .ref s0), (1, .int y)] := hl
  refine lv_iload_n hx hb d_S_requirePatterns_0 rfl (lv_at hl 1 rfl) ?_
  refine lv_if_lt (tgt := 11) hx hb d_S_requirePatterns_1 (by decide) (fun hn => ?_) (fun hn => ?_)
  · obtain ⟨sa, hstr⟩ := hE.2 _ xs_181
    exact vx_throwS (R := (headSpec w_S_requirePatterns ({ frames := 6, cells := 1, slots := 6, locals := 82 } : Room)).room) (rest := []) (cells := 0) (slots := 0) (mc := 1) (ms := 6) (names := ["java/lang/RuntimeException", "java/lang/Exception"]) hx hb hlt hown (by decide) (by decide) (hts _ xt_IA_k) (hts _ xt_IA_i) hstr (xt_IA hts hE) xt_IA_o hZ.1 hZ.2 va_S.rf (hl.1.trans hml.symm) d_S_requirePatterns_11 d_S_requirePatterns_14 d_S_requirePatterns_15 d_S_requirePatterns_17 d_S_requirePatterns_20 (fun x hx => (hex x hx).elim) (Nat.le_of_ble_eq_true rfl) (Nat.le_of_ble_eq_true rfl) (Nat.le_of_ble_eq_true rfl) (Nat.le_of_ble_eq_true rfl) hlocks xq_hx (fun _ h => nomatch h) (Nat.le_of_ble_eq_true rfl) (Nat.le_of_ble_eq_true rfl)
  · refine lv_iload_n hx hb d_S_requirePatterns_4 rfl (lv_at hl 1 rfl) ?_
    refine lv_sipush (v := nI 256) hx hb d_S_requirePatterns_5 (by decide) ?_
    refine lv_icmp_le (tgt := 21) hx hb d_S_requirePatterns_8 (by decide) (fun hc => absurd hc (fun z => hy.elim hn (fun q => q z))) (fun _ => ?_)
    obtain ⟨sa, hstr⟩ := hE.2 _ xs_181
    exact vx_throwS (R := (headSpec w_S_requirePatterns ({ frames := 6, cells := 1, slots := 6, locals := 82 } : Room)).room) (rest := []) (cells := 0) (slots := 0) (mc := 1) (ms := 6) (names := ["java/lang/RuntimeException", "java/lang/Exception"]) hx hb hlt hown (by decide) (by decide) (hts _ xt_IA_k) (hts _ xt_IA_i) hstr (xt_IA hts hE) xt_IA_o hZ.1 hZ.2 va_S.rf (hl.1.trans hml.symm) d_S_requirePatterns_11 d_S_requirePatterns_14 d_S_requirePatterns_15 d_S_requirePatterns_17 d_S_requirePatterns_20 (fun x hx => (hex x hx).elim) (Nat.le_of_ble_eq_true rfl) (Nat.le_of_ble_eq_true rfl) (Nat.le_of_ble_eq_true rfl) (Nat.le_of_ble_eq_true rfl) hlocks xq_hx (fun _ h => nomatch h) (Nat.le_of_ble_eq_true rfl) (Nat.le_of_ble_eq_true rfl)
set_option maxHeartbeats 4000000 in
set_option maxRecDepth 100000 in
theorem c_S_requireLine (l : Launch) (dC : Nat → ClassId) (dI : Nat → Nat → Nat) (cI cL : ClassId) (s0 m0 c0 e0 q1 : Nat) (vr : Nat) (k1 k2 k3 k4 k5 : Nat) (cc gc oc : Nat) (a : Nat) (ha : a < cc + gc) (hb0 : cc + gc < 2 ^ 31) : Met l y_S_requireLine w_S_requireLine ({ frames := 1, cells := 0, slots := 0, locals := 20 } : Room) (va_Pc [.ref s0, .int (nI a)] (wq_R (dC, dI) classes [(s0, .inr (0, [.ref m0, .ref c0, .ref e0, .ref q1, .long (lN vr)])), (c0, .inr (2, [.ref k1, .ref k2, .ref k3, .ref k4, .ref k5, .int (nI cc), .int (nI gc), .int (nI oc)]))] [(cI, .int), (cL, .long)])) (va_Sv (fun _ => True)) 0 0 (fun _ => False) := by
  refine Met.ofW (cc := b_S_requireLine) (maxL := 2) (ret := (Option.none : Option Jvm.ClassFile.FieldType)) (by decide) rfl ?_
  intro pg en st mm ar bw me co s₁ B hml hv
  obtain ⟨rfl, hP, hK, hN⟩ := hv
  have hx := B.exec
  have hb := B.bytes
  have hr := B.returns
  have hlocks := B.notSynchronized
  have hts0 := atoms_spec (ws := w_S_requireLine) B.pre
  have hts : ∀ w ∈ gw, w.before _ st = true := fun w h => hts0 w (List.mem_cons_of_mem _ h)
  have hown : st.vm.findClass R_S = some mm.cls := findClass_of_methodNamed B.named
  have hl := lv_entry ([.ref s0, .int (nI a)]) (n := 2) (Nat.le_of_ble_eq_true rfl)
  rw [lg_entry_eq]
  generalize (lg_sl ([.ref s0, .int (nI a)]) ++ List.replicate (2 - (lg_sl ([.ref s0, .int (nI a)])).length) Slot.unset).toArray = ls at hl ⊢
  have hl : lv_has ls 2 [(0, .ref s0), (1, .int (nI a))] := hl
  refine lv_iload_n hx hb d_S_requireLine_0 rfl (lv_at hl 1 rfl) ?_
  refine lv_if_lt (tgt := 15) hx hb d_S_requireLine_1 (by decide) (fun hc => absurd hc (nI_nn (by omega))) (fun _ => ?_)
  refine lv_iload_n hx hb d_S_requireLine_4 rfl (lv_at hl 1 rfl) ?_
  refine lv_aload_n hx hb d_S_requireLine_5 rfl (lv_at hl 0 rfl) ?_
  refine va_get (D := (dC, dI)) (ci := 0) (v := .ref c0) (C := R_S) (T := F_S) (N := 5) hx hb hts in_S hown hK hP 0 rfl rfl 1 (by decide) (hts _ kw_95) (fun _ h9 => h9) rfl d_S_requireLine_6 ?_
  refine vp_callSi (va_Run.run (va_runVN (As := []) (rest := [.int (nI a)]) ⟨hx, hb, hml, hown, hts⟩ (c_C_countLines l dC dI cI cL c0 k1 k2 k3 k4 k5 cc gc oc) ⟨va_cnB 0 hts gi_C_countLines rfl rfl rfl (hN _ kw_371) (hts _ kw_3) ⟨by decide, by decide, by decide⟩ ⟨Nat.le_of_ble_eq_true rfl, Nat.le_of_ble_eq_true rfl⟩, hts _ kw_373, hts _ ks_C_countLines⟩ (wq_preVR hP hK hN [1] rfl (q0 := 1) (ci := 2) rfl rfl rfl) rfl rfl hl.1 rfl (lv_room (Nat.le_of_ble_eq_true rfl)) d_S_requireLine_9 ⟨Nat.le_of_ble_eq_true rfl, Nat.le_of_ble_eq_true rfl⟩)) (fun r hq => ?_)
  subst hq
  refine lv_icmp_lt (tgt := 25) hx hb d_S_requireLine_12 (by decide) (fun _ => ?_) (fun hc => absurd hc (fun z => z ((nI_ltI (by omega) (by omega)).mpr ha)))
  exact W.vret hx hb hr (fun t ht hW => ⟨rfl, trivial, ht⟩) (fun _ h => nomatch h) d_S_requireLine_25
set_option maxHeartbeats 4000000 in
set_option maxRecDepth 100000 in
theorem x_S_requireLine (l : Launch) (dC : Nat → ClassId) (dI : Nat → Nat → Nat) (cI cL : ClassId) (hlt : l.stackTraces = false) (sz : Nat) (s0 m0 c0 e0 q1 : Nat) (vr : Nat) (k1 k2 k3 k4 k5 : Nat) (cc gc oc : Nat) (y : Int32) (hy : y < 0 ∨ ¬ y < nI (cc + gc)) : vx_Met l y_S_requireLine w_S_requireLine ({ frames := 6, cells := 1, slots := 6, locals := 82 } : Room) (va_Pc [.ref s0, .int y] (wq_X (dC, dI) classes [(s0, .inr (0, [.ref m0, .ref c0, .ref e0, .ref q1, .long (lN vr)])), (c0, .inr (2, [.ref k1, .ref k2, .ref k3, .ref k4, .ref k5, .int (nI cc), .int (nI gc), .int (nI oc)]))] [(cI, .int), (cL, .long)] sz)) (xq_v sz) (xq "java/lang/IndexOutOfBoundsException" sz) 1 6 (fun q => sz ≤ q) := by
  refine vx_ofW (cc := b_S_requireLine) (maxL := 2) (ret := (Option.none : Option Jvm.ClassFile.FieldType)) (by decide) rfl ?_
  intro pg en st mm ar bw me co s₁ B hml hex hv
  obtain ⟨rfl, hsz, ⟨hP, hK, hN⟩, hE, hZ⟩ := hv
  subst hsz
  have hx := B.exec
  have hb := B.bytes
  have hr := B.returns
  have hlocks := B.notSynchronized
  have hts0 := atoms_spec (ws := w_S_requireLine) B.pre
  have hts : ∀ w ∈ gw, w.before _ st = true := fun w h => hts0 w (List.mem_cons_of_mem _ h)
  have hown : st.vm.findClass R_S = some mm.cls := findClass_of_methodNamed B.named
  have hl := lv_entry ([.ref s0, .int y]) (n := 2) (Nat.le_of_ble_eq_true rfl)
  rw [lg_entry_eq]
  generalize (lg_sl ([.ref s0, .int y]) ++ List.replicate (2 - (lg_sl ([.ref s0, .int y])).length) Slot.unset).toArray = ls at hl ⊢
  have hl : lv_has ls 2 [(0, .ref s0), (1, .int y)] := hl
  refine lv_iload_n hx hb d_S_requireLine_0 rfl (lv_at hl 1 rfl) ?_
  refine lv_if_lt (tgt := 15) hx hb d_S_requireLine_1 (by decide) (fun hn => ?_) (fun hn => ?_)
  · obtain ⟨sa, hstr⟩ := hE.2 _ xs_186
    exact vx_throwS (R := (headSpec w_S_requireLine ({ frames := 6, cells := 1, slots := 6, locals := 82 } : Room)).room) (rest := []) (cells := 0) (slots := 0) (mc := 1) (ms := 6) (names := ["java/lang/RuntimeException", "java/lang/Exception"]) hx hb hlt hown (by decide) (by decide) (hts _ xt_IO_k) (hts _ xt_IO_i) hstr (xt_IO hts hE) xt_IO_o hZ.1 hZ.2 va_S.rf (hl.1.trans hml.symm) d_S_requireLine_15 d_S_requireLine_18 d_S_requireLine_19 d_S_requireLine_21 d_S_requireLine_24 (fun x hx => (hex x hx).elim) (Nat.le_of_ble_eq_true rfl) (Nat.le_of_ble_eq_true rfl) (Nat.le_of_ble_eq_true rfl) (Nat.le_of_ble_eq_true rfl) hlocks xq_hx (fun _ h => nomatch h) (Nat.le_of_ble_eq_true rfl) (Nat.le_of_ble_eq_true rfl)
  · refine lv_iload_n hx hb d_S_requireLine_4 rfl (lv_at hl 1 rfl) ?_
    refine lv_aload_n hx hb d_S_requireLine_5 rfl (lv_at hl 0 rfl) ?_
    refine va_get (D := (dC, dI)) (ci := 0) (v := .ref c0) (C := R_S) (T := F_S) (N := 5) hx hb hts in_S hown hK hP 0 rfl rfl 1 (by decide) (hts _ kw_95) (fun _ h9 => h9) rfl d_S_requireLine_6 ?_
    refine vp_callSi (va_Run.run (va_runVN (As := []) (rest := [.int y]) ⟨hx, hb, hml, hown, hts⟩ (c_C_countLines l dC dI cI cL c0 k1 k2 k3 k4 k5 cc gc oc) ⟨va_cnB 0 hts gi_C_countLines rfl rfl rfl (hN _ kw_371) (hts _ kw_3) ⟨by decide, by decide, by decide⟩ ⟨Nat.le_of_ble_eq_true rfl, Nat.le_of_ble_eq_true rfl⟩, hts _ kw_373, hts _ ks_C_countLines⟩ (wq_preVR hP hK hN [1] rfl (q0 := 1) (ci := 2) rfl rfl rfl) rfl rfl hl.1 rfl (lv_room (Nat.le_of_ble_eq_true rfl)) d_S_requireLine_9 ⟨Nat.le_of_ble_eq_true rfl, Nat.le_of_ble_eq_true rfl⟩)) (fun r hq => ?_)
    subst hq
    refine lv_icmp_lt (tgt := 25) hx hb d_S_requireLine_12 (by decide) (fun hc => absurd hc (fun z => hy.elim hn (fun q => q z))) (fun _ => ?_)
    obtain ⟨sa, hstr⟩ := hE.2 _ xs_186
    exact vx_throwS (R := (headSpec w_S_requireLine ({ frames := 6, cells := 1, slots := 6, locals := 82 } : Room)).room) (rest := []) (cells := 0) (slots := 0) (mc := 1) (ms := 6) (names := ["java/lang/RuntimeException", "java/lang/Exception"]) hx hb hlt hown (by decide) (by decide) (hts _ xt_IO_k) (hts _ xt_IO_i) hstr (xt_IO hts hE) xt_IO_o hZ.1 hZ.2 va_S.rf (hl.1.trans hml.symm) d_S_requireLine_15 d_S_requireLine_18 d_S_requireLine_19 d_S_requireLine_21 d_S_requireLine_24 (fun x hx => (hex x hx).elim) (Nat.le_of_ble_eq_true rfl) (Nat.le_of_ble_eq_true rfl) (Nat.le_of_ble_eq_true rfl) (Nat.le_of_ble_eq_true rfl) hlocks xq_hx (fun _ h => nomatch h) (Nat.le_of_ble_eq_true rfl) (Nat.le_of_ble_eq_true rfl)
set_option maxHeartbeats 4000000 in
set_option maxRecDepth 100000 in
theorem c_S_requireFault (l : Launch) (dC : Nat → ClassId) (dI : Nat → Nat → Nat) (cI cL : ClassId) (s0 m0 c0 e0 q1 : Nat) (vr : Nat) (k1 k2 k3 k4 k5 : Nat) (cc gc oc : Nat) (a : Nat) (ha : a < 2 * (cc + gc)) (hb0 : 2 * (cc + gc) < 2 ^ 31) : Met l y_S_requireFault w_S_requireFault ({ frames := 2, cells := 0, slots := 0, locals := 40 } : Room) (va_Pc [.ref s0, .int (nI a)] (wq_R (dC, dI) classes [(s0, .inr (0, [.ref m0, .ref c0, .ref e0, .ref q1, .long (lN vr)])), (c0, .inr (2, [.ref k1, .ref k2, .ref k3, .ref k4, .ref k5, .int (nI cc), .int (nI gc), .int (nI oc)]))] [(cI, .int), (cL, .long)])) (va_Sv (fun _ => True)) 0 0 (fun _ => False) := by
  refine Met.ofW (cc := b_S_requireFault) (maxL := 2) (ret := (Option.none : Option Jvm.ClassFile.FieldType)) (by decide) rfl ?_
  intro pg en st mm ar bw me co s₁ B hml hv
  obtain ⟨rfl, hP, hK, hN⟩ := hv
  have hx := B.exec
  have hb := B.bytes
  have hr := B.returns
  have hlocks := B.notSynchronized
  have hts0 := atoms_spec (ws := w_S_requireFault) B.pre
  have hts : ∀ w ∈ gw, w.before _ st = true := fun w h => hts0 w (List.mem_cons_of_mem _ h)
  have hown : st.vm.findClass R_S = some mm.cls := findClass_of_methodNamed B.named
  have hl := lv_entry ([.ref s0, .int (nI a)]) (n := 2) (Nat.le_of_ble_eq_true rfl)
  rw [lg_entry_eq]
  generalize (lg_sl ([.ref s0, .int (nI a)]) ++ List.replicate (2 - (lg_sl ([.ref s0, .int (nI a)])).length) Slot.unset).toArray = ls at hl ⊢
  have hl : lv_has ls 2 [(0, .ref s0), (1, .int (nI a))] := hl
  refine lv_iload_n hx hb d_S_requireFault_0 rfl (lv_at hl 1 rfl) ?_
  refine lv_if_lt (tgt := 15) hx hb d_S_requireFault_1 (by decide) (fun hc => absurd hc (nI_nn (by omega))) (fun _ => ?_)
  refine lv_iload_n hx hb d_S_requireFault_4 rfl (lv_at hl 1 rfl) ?_
  refine lv_aload_n hx hb d_S_requireFault_5 rfl (lv_at hl 0 rfl) ?_
  refine va_get (D := (dC, dI)) (ci := 0) (v := .ref c0) (C := R_S) (T := F_S) (N := 5) hx hb hts in_S hown hK hP 0 rfl rfl 1 (by decide) (hts _ kw_95) (fun _ h9 => h9) rfl d_S_requireFault_6 ?_
  refine vp_callSi (va_Run.run (va_runVN (As := []) (rest := [.int (nI a)]) ⟨hx, hb, hml, hown, hts⟩ (c_C_countFaults l dC dI cI cL c0 k1 k2 k3 k4 k5 cc gc oc) ⟨va_cnB 0 hts gi_C_countFaults rfl rfl rfl (hN _ kw_424) (hts _ kw_3) ⟨by decide, by decide, by decide⟩ ⟨Nat.le_of_ble_eq_true rfl, Nat.le_of_ble_eq_true rfl⟩, hts _ kw_426, hts _ ks_C_countFaults⟩ (wq_preVR hP hK hN [1] rfl (q0 := 1) (ci := 2) rfl rfl rfl) rfl rfl hl.1 rfl (lv_room (Nat.le_of_ble_eq_true rfl)) d_S_requireFault_9 ⟨Nat.le_of_ble_eq_true rfl, Nat.le_of_ble_eq_true rfl⟩)) (fun r hq => ?_)
  subst hq
  refine lv_icmp_lt (tgt := 25) hx hb d_S_requireFault_12 (by decide) (fun _ => ?_) (fun hc => absurd hc (fun z => z ((nI_ltI (by omega) (by omega)).mpr ha)))
  exact W.vret hx hb hr (fun t ht hW => ⟨rfl, trivial, ht⟩) (fun _ h => nomatch h) d_S_requireFault_25
set_option maxHeartbeats 4000000 in
set_option maxRecDepth 100000 in
theorem x_S_requireFault (l : Launch) (dC : Nat → ClassId) (dI : Nat → Nat → Nat) (cI cL : ClassId) (hlt : l.stackTraces = false) (sz : Nat) (s0 m0 c0 e0 q1 : Nat) (vr : Nat) (k1 k2 k3 k4 k5 : Nat) (cc gc oc : Nat) (y : Int32) (hy : y < 0 ∨ ¬ y < nI (2 * (cc + gc))) : vx_Met l y_S_requireFault w_S_requireFault ({ frames := 6, cells := 1, slots := 6, locals := 82 } : Room) (va_Pc [.ref s0, .int y] (wq_X (dC, dI) classes [(s0, .inr (0, [.ref m0, .ref c0, .ref e0, .ref q1, .long (lN vr)])), (c0, .inr (2, [.ref k1, .ref k2, .ref k3, .ref k4, .ref k5, .int (nI cc), .int (nI gc), .int (nI oc)]))] [(cI, .int), (cL, .long)] sz)) (xq_v sz) (xq "java/lang/IndexOutOfBoundsException" sz) 1 6 (fun q => sz ≤ q) := by
  refine vx_ofW (cc := b_S_requireFault) (maxL := 2) (ret := (Option.none : Option Jvm.ClassFile.FieldType)) (by decide) rfl ?_
  intro pg en st mm ar bw me co s₁ B hml hex hv
  obtain ⟨rfl, hsz, ⟨hP, hK, hN⟩, hE, hZ⟩ := hv
  subst hsz
  have hx := B.exec
  have hb := B.bytes
  have hr := B.returns
  have hlocks := B.notSynchronized
  have hts0 := atoms_spec (ws := w_S_requireFault) B.pre
  have hts : ∀ w ∈ gw, w.before _ st = true := fun w h => hts0 w (List.mem_cons_of_mem _ h)
  have hown : st.vm.findClass R_S = some mm.cls := findClass_of_methodNamed B.named
  have hl := lv_entry ([.ref s0, .int y]) (n := 2) (Nat.le_of_ble_eq_true rfl)
  rw [lg_entry_eq]
  generalize (lg_sl ([.ref s0, .int y]) ++ List.replicate (2 - (lg_sl ([.ref s0, .int y])).length) Slot.unset).toArray = ls at hl ⊢
  have hl : lv_has ls 2 [(0, .ref s0), (1, .int y)] := hl
  refine lv_iload_n hx hb d_S_requireFault_0 rfl (lv_at hl 1 rfl) ?_
  refine lv_if_lt (tgt := 15) hx hb d_S_requireFault_1 (by decide) (fun hn => ?_) (fun hn => ?_)
  · obtain ⟨sa, hstr⟩ := hE.2 _ xs_188
    exact vx_throwS (R := (headSpec w_S_requireFault ({ frames := 6, cells := 1, slots := 6, locals := 82 } : Room)).room) (rest := []) (cells := 0) (slots := 0) (mc := 1) (ms := 6) (names := ["java/lang/RuntimeException", "java/lang/Exception"]) hx hb hlt hown (by decide) (by decide) (hts _ xt_IO_k) (hts _ xt_IO_i) hstr (xt_IO hts hE) xt_IO_o hZ.1 hZ.2 va_S.rf (hl.1.trans hml.symm) d_S_requireFault_15 d_S_requireFault_18 d_S_requireFault_19 d_S_requireFault_21 d_S_requireFault_24 (fun x hx => (hex x hx).elim) (Nat.le_of_ble_eq_true rfl) (Nat.le_of_ble_eq_true rfl) (Nat.le_of_ble_eq_true rfl) (Nat.le_of_ble_eq_true rfl) hlocks xq_hx (fun _ h => nomatch h) (Nat.le_of_ble_eq_true rfl) (Nat.le_of_ble_eq_true rfl)
  · refine lv_iload_n hx hb d_S_requireFault_4 rfl (lv_at hl 1 rfl) ?_
    refine lv_aload_n hx hb d_S_requireFault_5 rfl (lv_at hl 0 rfl) ?_
    refine va_get (D := (dC, dI)) (ci := 0) (v := .ref c0) (C := R_S) (T := F_S) (N := 5) hx hb hts in_S hown hK hP 0 rfl rfl 1 (by decide) (hts _ kw_95) (fun _ h9 => h9) rfl d_S_requireFault_6 ?_
    refine vp_callSi (va_Run.run (va_runVN (As := []) (rest := [.int y]) ⟨hx, hb, hml, hown, hts⟩ (c_C_countFaults l dC dI cI cL c0 k1 k2 k3 k4 k5 cc gc oc) ⟨va_cnB 0 hts gi_C_countFaults rfl rfl rfl (hN _ kw_424) (hts _ kw_3) ⟨by decide, by decide, by decide⟩ ⟨Nat.le_of_ble_eq_true rfl, Nat.le_of_ble_eq_true rfl⟩, hts _ kw_426, hts _ ks_C_countFaults⟩ (wq_preVR hP hK hN [1] rfl (q0 := 1) (ci := 2) rfl rfl rfl) rfl rfl hl.1 rfl (lv_room (Nat.le_of_ble_eq_true rfl)) d_S_requireFault_9 ⟨Nat.le_of_ble_eq_true rfl, Nat.le_of_ble_eq_true rfl⟩)) (fun r hq => ?_)
    subst hq
    refine lv_icmp_lt (tgt := 25) hx hb d_S_requireFault_12 (by decide) (fun hc => absurd hc (fun z => hy.elim hn (fun q => q z))) (fun _ => ?_)
    obtain ⟨sa, hstr⟩ := hE.2 _ xs_188
    exact vx_throwS (R := (headSpec w_S_requireFault ({ frames := 6, cells := 1, slots := 6, locals := 82 } : Room)).room) (rest := []) (cells := 0) (slots := 0) (mc := 1) (ms := 6) (names := ["java/lang/RuntimeException", "java/lang/Exception"]) hx hb hlt hown (by decide) (by decide) (hts _ xt_IO_k) (hts _ xt_IO_i) hstr (xt_IO hts hE) xt_IO_o hZ.1 hZ.2 va_S.rf (hl.1.trans hml.symm) d_S_requireFault_15 d_S_requireFault_18 d_S_requireFault_19 d_S_requireFault_21 d_S_requireFault_24 (fun x hx => (hex x hx).elim) (Nat.le_of_ble_eq_true rfl) (Nat.le_of_ble_eq_true rfl) (Nat.le_of_ble_eq_true rfl) (Nat.le_of_ble_eq_true rfl) hlocks xq_hx (fun _ h => nomatch h) (Nat.le_of_ble_eq_true rfl) (Nat.le_of_ble_eq_true rfl)
set_option maxHeartbeats 4000000 in
set_option maxRecDepth 100000 in
theorem c_S_requireFaultOrNoneN (l : Launch) (dC : Nat → ClassId) (dI : Nat → Nat → Nat) (cI cL : ClassId) (s0 m0 c0 e0 q1 : Nat) (vr : Nat) (k1 k2 k3 k4 k5 : Nat) (cc gc oc : Nat) : Met l y_S_requireFaultOrNone w_S_requireFaultOrNone ({ frames := 3, cells := 0, slots := 0, locals := 61 } : Room) (va_Pc [.ref s0, .int (-1)] (wq_R (dC, dI) classes [(s0, .inr (0, [.ref m0, .ref c0, .ref e0, .ref q1, .long (lN vr)])), (c0, .inr (2, [.ref k1, .ref k2, .ref k3, .ref k4, .ref k5, .int (nI cc), .int (nI gc), .int (nI oc)]))] [(cI, .int), (cL, .long)])) (va_Sv (fun _ => True)) 0 0 (fun _ => False) := by
  refine Met.ofW (cc := b_S_requireFaultOrNone) (maxL := 2) (ret := (Option.none : Option Jvm.ClassFile.FieldType)) (by decide) rfl ?_
  intro pg en st mm ar bw me co s₁ B hml hv
  obtain ⟨rfl, hP, hK, hN⟩ := hv
  have hx := B.exec
  have hb := B.bytes
  have hr := B.returns
  have hlocks := B.notSynchronized
  have hts0 := atoms_spec (ws := w_S_requireFaultOrNone) B.pre
  have hts : ∀ w ∈ gw, w.before _ st = true := fun w h => hts0 w (List.mem_cons_of_mem _ h)
  have hown : st.vm.findClass R_S = some mm.cls := findClass_of_methodNamed B.named
  have hl := lv_entry ([.ref s0, .int (-1)]) (n := 2) (Nat.le_of_ble_eq_true rfl)
  rw [lg_entry_eq]
  generalize (lg_sl ([.ref s0, .int (-1)]) ++ List.replicate (2 - (lg_sl ([.ref s0, .int (-1)])).length) Slot.unset).toArray = ls at hl ⊢
  have hl : lv_has ls 2 [(0, .ref s0), (1, .int (-1))] := hl
  refine lv_iload_n hx hb d_S_requireFaultOrNone_0 rfl (lv_at hl 1 rfl) ?_
  refine lv_iconst (v := (-1)) hx hb d_S_requireFaultOrNone_1 (by decide) ?_
  refine lv_icmp_eq (tgt := 10) hx hb d_S_requireFaultOrNone_2 (by decide) (fun _ => ?_) (fun hc => absurd hc (fun z => z rfl))
  exact W.vret hx hb hr (fun t ht hW => ⟨rfl, trivial, ht⟩) (fun _ h => nomatch h) d_S_requireFaultOrNone_10
set_option maxHeartbeats 4000000 in
set_option maxRecDepth 100000 in
theorem c_S_requireFaultOrNoneF (l : Launch) (dC : Nat → ClassId) (dI : Nat → Nat → Nat) (cI cL : ClassId) (s0 m0 c0 e0 q1 : Nat) (vr : Nat) (k1 k2 k3 k4 k5 : Nat) (cc gc oc : Nat) (a : Nat) (ha : a < 2 * (cc + gc)) (hb0 : 2 * (cc + gc) < 2 ^ 31) : Met l y_S_requireFaultOrNone w_S_requireFaultOrNone ({ frames := 3, cells := 0, slots := 0, locals := 61 } : Room) (va_Pc [.ref s0, .int (nI a)] (wq_R (dC, dI) classes [(s0, .inr (0, [.ref m0, .ref c0, .ref e0, .ref q1, .long (lN vr)])), (c0, .inr (2, [.ref k1, .ref k2, .ref k3, .ref k4, .ref k5, .int (nI cc), .int (nI gc), .int (nI oc)]))] [(cI, .int), (cL, .long)])) (va_Sv (fun _ => True)) 0 0 (fun _ => False) := by
  refine Met.ofW (cc := b_S_requireFaultOrNone) (maxL := 2) (ret := (Option.none : Option Jvm.ClassFile.FieldType)) (by decide) rfl ?_
  intro pg en st mm ar bw me co s₁ B hml hv
  obtain ⟨rfl, hP, hK, hN⟩ := hv
  have hx := B.exec
  have hb := B.bytes
  have hr := B.returns
  have hlocks := B.notSynchronized
  have hts0 := atoms_spec (ws := w_S_requireFaultOrNone) B.pre
  have hts : ∀ w ∈ gw, w.before _ st = true := fun w h => hts0 w (List.mem_cons_of_mem _ h)
  have hown : st.vm.findClass R_S = some mm.cls := findClass_of_methodNamed B.named
  have hl := lv_entry ([.ref s0, .int (nI a)]) (n := 2) (Nat.le_of_ble_eq_true rfl)
  rw [lg_entry_eq]
  generalize (lg_sl ([.ref s0, .int (nI a)]) ++ List.replicate (2 - (lg_sl ([.ref s0, .int (nI a)])).length) Slot.unset).toArray = ls at hl ⊢
  have hl : lv_has ls 2 [(0, .ref s0), (1, .int (nI a))] := hl
  refine lv_iload_n hx hb d_S_requireFaultOrNone_0 rfl (lv_at hl 1 rfl) ?_
  refine lv_iconst (v := (-1)) hx hb d_S_requireFaultOrNone_1 (by decide) ?_
  refine lv_icmp_eq (tgt := 10) hx hb d_S_requireFaultOrNone_2 (by decide) (fun hc => absurd hc (nI_m1 (by omega))) (fun _ => ?_)
  refine lv_aload_n hx hb d_S_requireFaultOrNone_5 rfl (lv_at hl 0 rfl) ?_
  refine lv_iload_n hx hb d_S_requireFaultOrNone_6 rfl (lv_at hl 1 rfl) ?_
  refine va_csv (va_Run.run (va_runV (As := [.int (nI a)]) (rest := []) ⟨hx, hb, hml, hown, hts⟩ (c_S_requireFault l dC dI cI cL s0 m0 c0 e0 q1 vr k1 k2 k3 k4 k5 cc gc oc a ha hb0) (cwV 1 hts (gi_V kw_420 kw_422 ks_S_requireFault kw_1 gi_S_requireFault) rfl rfl rfl ⟨rfl, by decide, by decide, by decide⟩ ⟨Nat.le_of_ble_eq_true rfl, Nat.le_of_ble_eq_true rfl⟩) (wq_preVR hP hK hN [0, 1] rfl (q0 := 0) (ci := 0) rfl rfl rfl) rfl rfl hl.1 rfl (lv_room (Nat.le_of_ble_eq_true rfl)) d_S_requireFaultOrNone_7 ⟨Nat.le_of_ble_eq_true rfl, Nat.le_of_ble_eq_true rfl⟩)) (fun hq => ?_)
  exact W.vret hx hb hr (fun t ht hW => ⟨rfl, trivial, ht⟩) (fun _ h => nomatch h) d_S_requireFaultOrNone_10
set_option maxHeartbeats 4000000 in
set_option maxRecDepth 100000 in
theorem x_S_requireFaultOrNone (l : Launch) (dC : Nat → ClassId) (dI : Nat → Nat → Nat) (cI cL : ClassId) (hlt : l.stackTraces = false) (sz : Nat) (s0 m0 c0 e0 q1 : Nat) (vr : Nat) (k1 k2 k3 k4 k5 : Nat) (cc gc oc : Nat) (y : Int32) (hy : y < 0 ∨ ¬ y < nI (2 * (cc + gc))) (hm1 : y ≠ -1) : vx_Met l y_S_requireFaultOrNone w_S_requireFaultOrNone ({ frames := 7, cells := 1, slots := 6, locals := 103 } : Room) (va_Pc [.ref s0, .int y] (wq_X (dC, dI) classes [(s0, .inr (0, [.ref m0, .ref c0, .ref e0, .ref q1, .long (lN vr)])), (c0, .inr (2, [.ref k1, .ref k2, .ref k3, .ref k4, .ref k5, .int (nI cc), .int (nI gc), .int (nI oc)]))] [(cI, .int), (cL, .long)] sz)) (xq_v sz) (xq "java/lang/IndexOutOfBoundsException" sz) 1 6 (fun q => sz ≤ q) := by
  refine vx_ofW (cc := b_S_requireFaultOrNone) (maxL := 2) (ret := (Option.none : Option Jvm.ClassFile.FieldType)) (by decide) rfl ?_
  intro pg en st mm ar bw me co s₁ B hml hex hv
  obtain ⟨rfl, hsz, ⟨hP, hK, hN⟩, hE, hZ⟩ := hv
  subst hsz
  have hx := B.exec
  have hb := B.bytes
  have hr := B.returns
  have hlocks := B.notSynchronized
  have hts0 := atoms_spec (ws := w_S_requireFaultOrNone) B.pre
  have hts : ∀ w ∈ gw, w.before _ st = true := fun w h => hts0 w (List.mem_cons_of_mem _ h)
  have hown : st.vm.findClass R_S = some mm.cls := findClass_of_methodNamed B.named
  have hl := lv_entry ([.ref s0, .int y]) (n := 2) (Nat.le_of_ble_eq_true rfl)
  rw [lg_entry_eq]
  generalize (lg_sl ([.ref s0, .int y]) ++ List.replicate (2 - (lg_sl ([.ref s0, .int y])).length) Slot.unset).toArray = ls at hl ⊢
  have hl : lv_has ls 2 [(0, .ref s0), (1, .int y)] := hl
  refine lv_iload_n hx hb d_S_requireFaultOrNone_0 rfl (lv_at hl 1 rfl) ?_
  refine lv_iconst (v := (-1)) hx hb d_S_requireFaultOrNone_1 (by decide) ?_
  refine lv_icmp_eq (tgt := 10) hx hb d_S_requireFaultOrNone_2 (by decide) (fun hc => absurd hc (hm1)) (fun _ => ?_)
  refine lv_aload_n hx hb d_S_requireFaultOrNone_5 rfl (lv_at hl 0 rfl) ?_
  refine lv_iload_n hx hb d_S_requireFaultOrNone_6 rfl (lv_at hl 1 rfl) ?_
  exact xq_cv (cells := 0) (slots := 0) (mc := 1) (ms := 6) (MC := 1) (MS := 6) (vx_runV (As := [.int y]) (rest := []) ⟨hx, hb, hml, hown, hts⟩ (x_S_requireFault l dC dI cI cL hlt st.heap.size s0 m0 c0 e0 q1 vr k1 k2 k3 k4 k5 cc gc oc y hy) (cwV 1 hts (gi_V kw_420 kw_422 ks_S_requireFault kw_1 gi_S_requireFault) rfl rfl rfl ⟨rfl, by decide, by decide, by decide⟩ ⟨Nat.le_of_ble_eq_true rfl, Nat.le_of_ble_eq_true rfl⟩) (wq_preVX hP hK hN hE hZ [0, 1] rfl (q0 := 0) (ci := 0) rfl rfl rfl) rfl rfl hl.1 rfl (lv_room (Nat.le_of_ble_eq_true rfl)) d_S_requireFaultOrNone_7 ⟨Nat.le_of_ble_eq_true rfl, Nat.le_of_ble_eq_true rfl⟩) hex hlocks (Nat.le_of_ble_eq_true rfl) (Nat.le_of_ble_eq_true rfl)
