/-! contracts of the model: gates and answers; laid by a program -/
theorem bk5 {y : Int32} (h : y < 0 ∨ ¬ y ≤ nI 5) (e : y = nI 5) : False := by
  subst e
  revert h
  decide
def lt_I (cc : Nat) (kd lf rg : Nat → Nat) (pt : Nat) (st : Option Nat) (k : Nat) (u : Nat → Nat) : Prop := ∀ j, j < k → u j = Bool.toNat (ci_t cc kd lf rg pt st k j)
theorem lt_turn {cc : Nat} {kd lf rg : Nat → Nat} {pt : Nat} {st : Option Nat} {k : Nat} {u u' : Nat → Nat} (h : lt_I cc kd lf rg pt st k u) (h1 : u' k = Bool.toNat (ci_s st k (ci_v cc kd lf rg pt (ci_t cc kd lf rg pt st k) k))) (h2 : ∀ j, j < k → u' j = u j) : lt_I cc kd lf rg pt st (k + 1) u' := by
  intro j hj
  show u' j = Bool.toNat (if j = k then ci_s st k (ci_v cc kd lf rg pt (ci_t cc kd lf rg pt st k) k) else ci_t cc kd lf rg pt st k j)
  by_cases e : j = k
  · rw [if_pos e, e]; exact h1
  · rw [if_neg e, h2 j (by omega)]; exact h j (by omega)
theorem ci_s_ne {f k : Nat} {b : Bool} (h : ¬ f / 2 = k) : Bool.toNat (ci_s (some f) k b) = Bool.toNat b := by
  show Bool.toNat (if f / 2 = k then (f % 2 == 1) else b) = _
  rw [if_neg h]
theorem ci_s_eq {f k : Nat} {b : Bool} (h : f / 2 = k) : f % 2 = Bool.toNat (ci_s (some f) k b) := by
  show _ = Bool.toNat (if f / 2 = k then (f % 2 == 1) else b)
  rw [if_pos h]
  rcases Nat.mod_two_eq_zero_or_one f with e | e <;> rw [e] <;> rfl
theorem tn_1 (b : Bool) : (Bool.toNat b = 1) = (b = true) := by cases b <;> simp
theorem ne_not {a b : Int32} (h : ¬ ¬ a = b) : a = b := Classical.not_not.mp h
theorem nI_ge0 {a : Nat} (h : a < 2 ^ 31) : (0 : Int32) ≤ nI a := Int32.not_lt.mp (nI_nn h)
theorem im_neg {k cc : Nat} (h : k < cc) (hc : cc < 2 ^ 30) : ∃ x : Int32, nI k - nI cc = x ∧ ¬ (0 : Int32) ≤ x := by
  refine ⟨_, rfl, fun z => ?_⟩
  have h1 := pk_sub_toInt (a := k) (b := cc) (by omega) hc
  rw [Int32.le_iff_toInt_le, h1] at z
  have h2 : (0 : Int32).toInt = 0 := by decide
  omega
theorem isb1 {n k : Nat} (hn : n < 2 ^ 32) (hk : k < 32) : (nI n >>> (nI k &&& 31)) &&& nI 1 = nI (Bool.toNat (n.testBit k)) := by
  have hs : ((nI k &&& 31).toBitVec.smod 32).toNat = k := (by decide +kernel : ∀ n, n < 32 → ((nI n &&& 31).toBitVec.smod 32).toNat = n) k hk
  apply Int32.toBitVec_inj.1
  rw [Int32.toBitVec_and, Int32.toBitVec_shiftRight]
  apply BitVec.eq_of_getLsbD_eq
  intro i hi
  show ((nI n).toBitVec.sshiftRight ((nI k &&& 31).toBitVec.smod 32).toNat &&& 1#32).getLsbD i = (BitVec.ofNat 32 (Bool.toNat (n.testBit k))).getLsbD i
  rw [hs, BitVec.getLsbD_and, BitVec.getLsbD_sshiftRight, show (nI n).toBitVec = BitVec.ofNat 32 n from rfl]
  simp only [BitVec.getLsbD_ofNat]
  cases i with
  | zero =>
    cases hb : n.testBit k <;> simp [hk, hb]
  | succ i =>
    have h4 : Nat.testBit 1 (i + 1) = false := by
      apply Nat.testBit_lt_two_pow
      have h3 : 2 ^ 1 ≤ 2 ^ (i + 1) := Nat.pow_le_pow_right (by decide) (by omega)
      omega
    have h5 : (Bool.toNat (n.testBit k)).testBit (i + 1) = false := by
      cases n.testBit k
      · simp
      · exact h4
    rw [h4, h5]
    simp
set_option maxHeartbeats 4000000 in
set_option maxRecDepth 100000 in
theorem c_O_worth (l : Launch) (kk : Nat) (x y : Bool) (hkk : kk ≤ 5) : Met l y_O_worth w_O_worth ({ frames := 0, cells := 0, slots := 0, locals := 0 } : Room) (va_Pc [.int (nI kk), .int (nI (Bool.toNat x)), .int (nI (Bool.toNat y))] (fun _ => True)) (vp_Si (fun r => r = nI (Bool.toNat (gb kk x y)))) 0 0 (fun _ => False) := by
  refine Met.ofW (cc := b_O_worth) (maxL := 3) (ret := (Option.some Jvm.ClassFile.FieldType.int)) (by decide) rfl ?_
  intro pg en st mm ar bw me co s₁ B hml hv
  obtain ⟨rfl, -⟩ := hv
  have hx := B.exec
  have hb := B.bytes
  have hr := B.returns
  have hlocks := B.notSynchronized
  have hts0 := atoms_spec (ws := w_O_worth) B.pre
  have hts : ∀ w ∈ gw, w.before _ st = true := fun w h => hts0 w (List.mem_cons_of_mem _ h)
  have hown : st.vm.findClass R_O = some mm.cls := findClass_of_methodNamed B.named
  have hl := lv_entry ([.int (nI kk), .int (nI (Bool.toNat x)), .int (nI (Bool.toNat y))]) (n := 3) (Nat.le_of_ble_eq_true rfl)
  rw [lg_entry_eq]
  generalize (lg_sl ([.int (nI kk), .int (nI (Bool.toNat x)), .int (nI (Bool.toNat y))]) ++ List.replicate (3 - (lg_sl ([.int (nI kk), .int (nI (Bool.toNat x)), .int (nI (Bool.toNat y))])).length) Slot.unset).toArray = ls at hl ⊢
  have hl : lv_has ls 3 [(0, .int (nI kk)), (1, .int (nI (Bool.toNat x))), (2, .int (nI (Bool.toNat y)))] := hl
  refine lv_iload_n hx hb d_O_worth_0 rfl (lv_at hl 0 rfl) ?_
  have hk6 : kk = 0 ∨ kk = 1 ∨ kk = 2 ∨ kk = 3 ∨ kk = 4 ∨ kk = 5 := by omega
  rcases hk6 with e | e | e | e | e | e
  · subst e
    refine lv_tableIn (off := 35) (tgt := 36) hx hb d_O_worth_1 (by decide) (by decide) (by decide) (by decide) ?_
    refine lv_iload_n hx hb d_O_worth_36 rfl (lv_at hl 1 rfl) ?_
    refine lv_iload_n hx hb d_O_worth_37 rfl (lv_at hl 2 rfl) ?_
    refine lv_iand hx hb d_O_worth_38 ?_
    refine lv_topi (nm_r (show _ = nI (Bool.toNat (gb 0 x y)) from by cases x <;> cases y <;> decide) ?_)
    exact W.iret (v := nI (Bool.toNat (gb 0 x y))) hx hb hr (fun t9 ht hW => ⟨nI (Bool.toNat (gb 0 x y)), rfl, rfl, ht⟩) (fun _ h => nomatch h) d_O_worth_39
  · subst e
    refine lv_tableIn (off := 39) (tgt := 40) hx hb d_O_worth_1 (by decide) (by decide) (by decide) (by decide) ?_
    refine lv_iload_n hx hb d_O_worth_40 rfl (lv_at hl 1 rfl) ?_
    refine lv_iload_n hx hb d_O_worth_41 rfl (lv_at hl 2 rfl) ?_
    refine lv_ior hx hb d_O_worth_42 ?_
    refine lv_topi (nm_r (show _ = nI (Bool.toNat (gb 1 x y)) from by cases x <;> cases y <;> decide) ?_)
    exact W.iret (v := nI (Bool.toNat (gb 1 x y))) hx hb hr (fun t9 ht hW => ⟨nI (Bool.toNat (gb 1 x y)), rfl, rfl, ht⟩) (fun _ h => nomatch h) d_O_worth_43
  · subst e
    refine lv_tableIn (off := 43) (tgt := 44) hx hb d_O_worth_1 (by decide) (by decide) (by decide) (by decide) ?_
    refine lv_iload_n hx hb d_O_worth_44 rfl (lv_at hl 1 rfl) ?_
    refine lv_iload_n hx hb d_O_worth_45 rfl (lv_at hl 2 rfl) ?_
    refine lv_ixor hx hb d_O_worth_46 ?_
    refine lv_topi (nm_r (show _ = nI (Bool.toNat (gb 2 x y)) from by cases x <;> cases y <;> decide) ?_)
    exact W.iret (v := nI (Bool.toNat (gb 2 x y))) hx hb hr (fun t9 ht hW => ⟨nI (Bool.toNat (gb 2 x y)), rfl, rfl, ht⟩) (fun _ h => nomatch h) d_O_worth_47
  · subst e
    refine lv_tableIn (off := 47) (tgt := 48) hx hb d_O_worth_1 (by decide) (by decide) (by decide) (by decide) ?_
    refine lv_iconst (v := nI 1) hx hb d_O_worth_48 (by decide) ?_
    refine lv_iload_n hx hb d_O_worth_49 rfl (lv_at hl 1 rfl) ?_
    refine lv_iload_n hx hb d_O_worth_50 rfl (lv_at hl 2 rfl) ?_
    refine lv_iand hx hb d_O_worth_51 ?_
    refine lv_isub hx hb d_O_worth_52 ?_
    refine lv_topi (nm_r (show _ = nI (Bool.toNat (gb 3 x y)) from by cases x <;> cases y <;> decide) ?_)
    exact W.iret (v := nI (Bool.toNat (gb 3 x y))) hx hb hr (fun t9 ht hW => ⟨nI (Bool.toNat (gb 3 x y)), rfl, rfl, ht⟩) (fun _ h => nomatch h) d_O_worth_53
  · subst e
    refine lv_tableIn (off := 53) (tgt := 54) hx hb d_O_worth_1 (by decide) (by decide) (by decide) (by decide) ?_
    refine lv_iconst (v := nI 1) hx hb d_O_worth_54 (by decide) ?_
    refine lv_iload_n hx hb d_O_worth_55 rfl (lv_at hl 1 rfl) ?_
    refine lv_iload_n hx hb d_O_worth_56 rfl (lv_at hl 2 rfl) ?_
    refine lv_ior hx hb d_O_worth_57 ?_
    refine lv_isub hx hb d_O_worth_58 ?_
    refine lv_topi (nm_r (show _ = nI (Bool.toNat (gb 4 x y)) from by cases x <;> cases y <;> decide) ?_)
    exact W.iret (v := nI (Bool.toNat (gb 4 x y))) hx hb hr (fun t9 ht hW => ⟨nI (Bool.toNat (gb 4 x y)), rfl, rfl, ht⟩) (fun _ h => nomatch h) d_O_worth_59
  · subst e
    refine lv_tableOut (tgt := 60) hx hb d_O_worth_1 (by decide) (by decide) ?_
    refine lv_iconst (v := nI 1) hx hb d_O_worth_60 (by decide) ?_
    refine lv_iload_n hx hb d_O_worth_61 rfl (lv_at hl 1 rfl) ?_
    refine lv_isub hx hb d_O_worth_62 ?_
    refine lv_topi (nm_r (show _ = nI (Bool.toNat (gb 5 x y)) from by cases x <;> cases y <;> decide) ?_)
    exact W.iret (v := nI (Bool.toNat (gb 5 x y))) hx hb hr (fun t9 ht hW => ⟨nI (Bool.toNat (gb 5 x y)), rfl, rfl, ht⟩) (fun _ h => nomatch h) d_O_worth_63
set_option maxHeartbeats 4000000 in
set_option maxRecDepth 100000 in
theorem c_O_gateY5 (l : Launch) (dC : Nat → ClassId) (dI : Nat → Nat → Nat) (cI cL : ClassId) (sz : Nat) (o0 g1 g2 g3 g4 g5 g6 g7 g8 : Nat) (fl p n vr ir od cc gc oc : Nat) (kd lf rg : Nat → Nat) (a : Nat) (y : Int32) (ha : a < cc + gc) (hl1 : cc + gc < 2 ^ 31) (hgc : gc < 24) : Met l y_O_gate w_O_gate ({ frames := 1, cells := 0, slots := 0, locals := 21 } : Room) (va_Pc [.ref o0, .int (nI 5), .int (nI a), .int y] (wq_W (dC, dI) classes [(o0, .inr (4, [.int (nI fl), .long (lN p), .int (nI n), .long (lN vr), .int (nI ir), .long (lN od), .int (nI cc), .ref g1, .int (nI gc), .ref g2, .ref g3, .ref g4, .int (nI oc), .ref g5, .ref g6, .ref g7, .ref g8])), (g2, .inl (cI, 24, .inl (fun c => nI (kd c)))), (g3, .inl (cI, 24, .inl (fun c => nI (lf c)))), (g4, .inl (cI, 24, .inl (fun c => nI (rg c))))] [(cI, .int), (cL, .long)] sz)) (va_Qi (fun (r : Int32) (u : Unit) => r = nI (cc + gc)) (fun (u : Unit) t => wq_B (dC, dI) classes [(cI, .int), (cL, .long)] (va_A [(o0, .inr (4, [.int (nI fl), .long (lN p), .int (nI n), .long (lN vr), .int (nI ir), .long (lN od), .int (nI cc), .ref g1, .int (nI gc), .ref g2, .ref g3, .ref g4, .int (nI oc), .ref g5, .ref g6, .ref g7, .ref g8])), (g2, .inl (cI, 24, .inl (fun c => nI (kd c)))), (g3, .inl (cI, 24, .inl (fun c => nI (lf c)))), (g4, .inl (cI, 24, .inl (fun c => nI (rg c))))] sz) [(o0, .inr (4, [.int (nI 0), .long (lN p), .int (nI n), .long (lN vr), .int (nI ir), .long (lN od), .int (nI cc), .ref g1, .int (nI (gc + 1)), .ref g2, .ref g3, .ref g4, .int (nI oc), .ref g5, .ref g6, .ref g7, .ref g8])), (g2, .inl (cI, 24, .inl (fun c => nI ((va_up kd gc 5) c)))), (g3, .inl (cI, 24, .inl (fun c => nI ((va_up lf gc a) c)))), (g4, .inl (cI, 24, .inl (fun c => nI ((va_up rg gc a) c))))] t) (va_A [(o0, .inr (4, [.int (nI fl), .long (lN p), .int (nI n), .long (lN vr), .int (nI ir), .long (lN od), .int (nI cc), .ref g1, .int (nI gc), .ref g2, .ref g3, .ref g4, .int (nI oc), .ref g5, .ref g6, .ref g7, .ref g8])), (g2, .inl (cI, 24, .inl (fun c => nI (kd c)))), (g3, .inl (cI, 24, .inl (fun c => nI (lf c)))), (g4, .inl (cI, 24, .inl (fun c => nI (rg c))))] sz)) 0 0 (va_A [(o0, .inr (4, [.int (nI fl), .long (lN p), .int (nI n), .long (lN vr), .int (nI ir), .long (lN od), .int (nI cc), .ref g1, .int (nI gc), .ref g2, .ref g3, .ref g4, .int (nI oc), .ref g5, .ref g6, .ref g7, .ref g8])), (g2, .inl (cI, 24, .inl (fun c => nI (kd c)))), (g3, .inl (cI, 24, .inl (fun c => nI (lf c)))), (g4, .inl (cI, 24, .inl (fun c => nI (rg c))))] sz) := by
  refine Met.ofW (cc := b_O_gate) (maxL := 5) (ret := (Option.some Jvm.ClassFile.FieldType.int)) (by decide) rfl ?_
  intro pg en st mm ar bw me co s₁ B hml hv
  obtain ⟨rfl, hsz, hP, hK, hD0, hN⟩ := hv
  have hx := B.exec
  have hb := B.bytes
  have hr := B.returns
  have hlocks := B.notSynchronized
  have hts0 := atoms_spec (ws := w_O_gate) B.pre
  have hts : ∀ w ∈ gw, w.before _ st = true := fun w h => hts0 w (List.mem_cons_of_mem _ h)
  have hown : st.vm.findClass R_O = some mm.cls := findClass_of_methodNamed B.named
  subst hsz
  have hD := hD0.self (sz := st.heap.size)
  generalize hAe : va_A [(o0, .inr (4, [.int (nI fl), .long (lN p), .int (nI n), .long (lN vr), .int (nI ir), .long (lN od), .int (nI cc), .ref g1, .int (nI gc), .ref g2, .ref g3, .ref g4, .int (nI oc), .ref g5, .ref g6, .ref g7, .ref g8])), (g2, .inl (cI, 24, .inl (fun c => nI (kd c)))), (g3, .inl (cI, 24, .inl (fun c => nI (lf c)))), (g4, .inl (cI, 24, .inl (fun c => nI (rg c))))] st.heap.size = A at hD ⊢
  have hA : ∀ q : Nat, st.heap.size ≤ q → A q := fun q h => by rw [← hAe]; exact Or.inr h
  have hS : va_S A st.heap st.heap [] := va_S.rf
  have hl := lv_entry ([.ref o0, .int (nI 5), .int (nI a), .int y]) (n := 5) (Nat.le_of_ble_eq_true rfl)
  rw [lg_entry_eq]
  generalize (lg_sl ([.ref o0, .int (nI 5), .int (nI a), .int y]) ++ List.replicate (5 - (lg_sl ([.ref o0, .int (nI 5), .int (nI a), .int y])).length) Slot.unset).toArray = ls at hl ⊢
  have hl : lv_has ls 5 [(0, .ref o0), (1, .int (nI 5)), (2, .int (nI a)), (3, .int y)] := hl
  refine lv_aload_n hx hb d_O_gate_0 rfl (lv_at hl 0 rfl) ?_
  refine lv_iload_n hx hb d_O_gate_1 rfl (lv_at hl 2 rfl) ?_
  refine vp_callSi (va_Run.run (va_runV (As := [.int (nI a)]) (rest := []) ⟨hx, hb, hml, hown, hts⟩ (c_O_isLine l dC dI cI cL o0 g1 g2 g3 g4 g5 g6 g7 g8 fl p n vr ir od cc gc oc (nI a)) (cwV 1 hts (gi_V kw_673 kw_675 ks_O_isLine kw_5 gi_O_isLine) rfl rfl rfl ⟨rfl, by decide, by decide, by decide⟩ ⟨Nat.le_of_ble_eq_true rfl, Nat.le_of_ble_eq_true rfl⟩) (wq_preVR hP hK hN [0] rfl (q0 := 0) (ci := 4) rfl rfl rfl) rfl rfl hl.1 rfl (lv_room (Nat.le_of_ble_eq_true rfl)) d_O_gate_2 ⟨Nat.le_of_ble_eq_true rfl, Nat.le_of_ble_eq_true rfl⟩)) (fun r hq => ?_)
  have hq : r = 1 := by
    rcases hq with ⟨e9, -⟩ | ⟨-, e9⟩
    · exact e9
    · exact absurd e9 (in_ok ha hl1)
  subst hq
  refine lv_if_eq (tgt := 25) hx hb d_O_gate_5 (by decide) (fun hc => absurd hc (show ¬ (1 : Int32) = 0 from by decide)) (fun _ => ?_)
  refine lv_iload_n hx hb d_O_gate_8 rfl (lv_at hl 1 rfl) ?_
  refine lv_iconst (v := nI 5) hx hb d_O_gate_9 (by decide) ?_
  refine lv_icmp_eq (tgt := 21) hx hb d_O_gate_10 (by decide) (fun _ => ?_) (fun hc => absurd hc (fun z => z rfl))
  refine lv_iconst (v := nI 1) hx hb d_O_gate_21 (by decide) ?_
  refine lv_goto (tgt := 26) hx hb d_O_gate_22 (by decide) ?_
  refine lv_istore (lv' := [(4, .int (nI 1)), (0, .ref o0), (1, .int (nI 5)), (2, .int (nI a)), (3, .int y)]) hx hb d_O_gate_26 hl (by decide) rfl (fun ls hl => ?_)
  refine lv_aload_n hx hb d_O_gate_28 rfl (lv_at hl 1 rfl) ?_
  refine lv_iload_n hx hb d_O_gate_29 rfl (lv_at hl 2 rfl) ?_
  refine lv_if_lt (tgt := 38) hx hb d_O_gate_30 (by decide) (fun hc => absurd hc (nI_nn (by omega))) (fun _ => ?_)
  refine lv_iload_n hx hb d_O_gate_33 rfl (lv_at hl 2 rfl) ?_
  refine lv_iconst (v := nI 5) hx hb d_O_gate_34 (by decide) ?_
  refine lv_icmp_le (tgt := 42) hx hb d_O_gate_35 (by decide) (fun _ => ?_) (fun hc => absurd hc (fun z => z ((nI_leI (by omega) (by decide)).mpr (by omega))))
  refine lv_iload hx hb d_O_gate_42 (lv_at hl 0 rfl) ?_
  refine lv_if_ne (tgt := 51) hx hb d_O_gate_44 (by decide) (fun _ => ?_) (fun hc => absurd hc (show ¬ nI 1 = 0 from by decide))
  refine lv_aload_n hx hb d_O_gate_51 rfl (lv_at hl 1 rfl) ?_
  refine va_get (D := (dC, dI)) (ci := 4) (v := .int (nI gc)) (C := R_O) (T := F_O) (N := 17) hx hb hts in_O hown hK hP 0 rfl rfl 8 (by decide) (hts _ kw_536) (fun _ h9 => h9) rfl d_O_gate_52 ?_
  refine lv_bipush (v := nI 24) hx hb d_O_gate_55 (by decide) ?_
  refine lv_icmp_ne (tgt := 64) hx hb d_O_gate_57 (by decide) (fun _ => ?_) (fun hc => absurd hc ((by decide +kernel : ∀ k, k < 24 → ¬ nI k = nI 24) gc hgc))
  refine lv_iconst (v := nI 0) hx hb d_O_gate_64 (by decide) ?_
  refine wq_i (wr := [(g2, .inl (cI, 24, .inl (fun c => nI (kd c)))), (g3, .inl (cI, 24, .inl (fun c => nI (lf c)))), (g4, .inl (cI, 24, .inl (fun c => nI (rg c))))]) (va_runV (As := [.int (nI 0)]) (rest := []) ⟨hx, hb, hml, hown, hts⟩ (c_O_refused0 l dC dI cI cL st.heap.size o0 g1 g2 g3 g4 g5 g6 g7 g8 fl p n vr ir od cc gc oc) (cwV 1 hts (gi_V kw_588 kw_590 ks_O_refused kw_5 gi_O_refused) rfl rfl rfl ⟨rfl, by decide, by decide, by decide⟩ ⟨Nat.le_of_ble_eq_true rfl, Nat.le_of_ble_eq_true rfl⟩) (wq_preVW hP hD hK hN [0] rfl rfl (q0 := 0) (ci := 4) rfl rfl rfl) rfl rfl hl.1 rfl (lv_room (Nat.le_of_ble_eq_true rfl)) d_O_gate_65 ⟨Nat.le_of_ble_eq_true rfl, Nat.le_of_ble_eq_true rfl⟩) hP hD hS hA [0] [1, 2, 3] rfl rfl rfl (by decide) (fun r u H locs hq hP hD hS hz => ?_)
  have hP : va_P (dC, dI) classes [(g2, .inl (cI, 24, .inl (fun c => nI (kd c)))), (g3, .inl (cI, 24, .inl (fun c => nI (lf c)))), (g4, .inl (cI, 24, .inl (fun c => nI (rg c)))), (o0, .inr (4, [.int (nI 0), .long (lN p), .int (nI n), .long (lN vr), .int (nI ir), .long (lN od), .int (nI cc), .ref g1, .int (nI gc), .ref g2, .ref g3, .ref g4, .int (nI oc), .ref g5, .ref g6, .ref g7, .ref g8]))] H := hP
  have hD : va_D A [(g2, .inl (cI, 24, .inl (fun c => nI (kd c)))), (g3, .inl (cI, 24, .inl (fun c => nI (lf c)))), (g4, .inl (cI, 24, .inl (fun c => nI (rg c)))), (o0, .inr (4, [.int (nI 0), .long (lN p), .int (nI n), .long (lN vr), .int (nI ir), .long (lN od), .int (nI cc), .ref g1, .int (nI gc), .ref g2, .ref g3, .ref g4, .int (nI oc), .ref g5, .ref g6, .ref g7, .ref g8]))] := hD
  subst hq
  refine lv_if_eq (tgt := 73) hx hb d_O_gate_68 (by decide) (fun _ => ?_) (fun hc => absurd hc (fun z => z rfl))
  refine lv_aload_n hx hb d_O_gate_73 rfl (lv_at hl 1 rfl) ?_
  refine va_get (D := (dC, dI)) (ci := 4) (v := .ref g2) (C := R_O) (T := F_O) (N := 17) hx hb hts in_O hown hK hP 3 rfl rfl 9 (by decide) (hts _ kw_537) (fun _ h9 => h9) rfl d_O_gate_74 ?_
  refine lv_aload_n hx hb d_O_gate_77 rfl (lv_at hl 1 rfl) ?_
  refine va_get (D := (dC, dI)) (ci := 4) (v := .int (nI gc)) (C := R_O) (T := F_O) (N := 17) hx hb hts in_O hown hK hP 3 rfl rfl 8 (by decide) (hts _ kw_536) (fun _ h9 => h9) rfl d_O_gate_78 ?_
  refine lv_iload_n hx hb d_O_gate_81 rfl (lv_at hl 2 rfl) ?_
  refine va_iast (D := (dC, dI)) (i := (nI gc)) (x := (nI 5)) hx hb hK hP hD hS 0 0 rfl rfl (vp_in_nI (by omega) (by decide)) d_O_gate_82 (fun H locs hP hD hS => ?_)
  rw [nI_clamp (by omega), upd_nI] at hP hD
  have hP : va_P (dC, dI) classes [(g2, .inl (cI, 24, .inl (fun c => nI ((va_up kd gc 5) c)))), (g3, .inl (cI, 24, .inl (fun c => nI (lf c)))), (g4, .inl (cI, 24, .inl (fun c => nI (rg c)))), (o0, .inr (4, [.int (nI 0), .long (lN p), .int (nI n), .long (lN vr), .int (nI ir), .long (lN od), .int (nI cc), .ref g1, .int (nI gc), .ref g2, .ref g3, .ref g4, .int (nI oc), .ref g5, .ref g6, .ref g7, .ref g8]))] H := hP
  have hD : va_D A [(g2, .inl (cI, 24, .inl (fun c => nI ((va_up kd gc 5) c)))), (g3, .inl (cI, 24, .inl (fun c => nI (lf c)))), (g4, .inl (cI, 24, .inl (fun c => nI (rg c)))), (o0, .inr (4, [.int (nI 0), .long (lN p), .int (nI n), .long (lN vr), .int (nI ir), .long (lN od), .int (nI cc), .ref g1, .int (nI gc), .ref g2, .ref g3, .ref g4, .int (nI oc), .ref g5, .ref g6, .ref g7, .ref g8]))] := hD
  refine lv_aload_n hx hb d_O_gate_83 rfl (lv_at hl 1 rfl) ?_
  refine va_get (D := (dC, dI)) (ci := 4) (v := .ref g3) (C := R_O) (T := F_O) (N := 17) hx hb hts in_O hown hK hP 3 rfl rfl 10 (by decide) (hts _ kw_538) (fun _ h9 => h9) rfl d_O_gate_84 ?_
  refine lv_aload_n hx hb d_O_gate_87 rfl (lv_at hl 1 rfl) ?_
  refine va_get (D := (dC, dI)) (ci := 4) (v := .int (nI gc)) (C := R_O) (T := F_O) (N := 17) hx hb hts in_O hown hK hP 3 rfl rfl 8 (by decide) (hts _ kw_536) (fun _ h9 => h9) rfl d_O_gate_88 ?_
  refine lv_iload_n hx hb d_O_gate_91 rfl (lv_at hl 3 rfl) ?_
  refine va_iast (D := (dC, dI)) (i := (nI gc)) (x := (nI a)) hx hb hK hP hD hS 1 0 rfl rfl (vp_in_nI (by omega) (by decide)) d_O_gate_92 (fun H locs hP hD hS => ?_)
  rw [nI_clamp (by omega), upd_nI] at hP hD
  have hP : va_P (dC, dI) classes [(g2, .inl (cI, 24, .inl (fun c => nI ((va_up kd gc 5) c)))), (g3, .inl (cI, 24, .inl (fun c => nI ((va_up lf gc a) c)))), (g4, .inl (cI, 24, .inl (fun c => nI (rg c)))), (o0, .inr (4, [.int (nI 0), .long (lN p), .int (nI n), .long (lN vr), .int (nI ir), .long (lN od), .int (nI cc), .ref g1, .int (nI gc), .ref g2, .ref g3, .ref g4, .int (nI oc), .ref g5, .ref g6, .ref g7, .ref g8]))] H := hP
  have hD : va_D A [(g2, .inl (cI, 24, .inl (fun c => nI ((va_up kd gc 5) c)))), (g3, .inl (cI, 24, .inl (fun c => nI ((va_up lf gc a) c)))), (g4, .inl (cI, 24, .inl (fun c => nI (rg c)))), (o0, .inr (4, [.int (nI 0), .long (lN p), .int (nI n), .long (lN vr), .int (nI ir), .long (lN od), .int (nI cc), .ref g1, .int (nI gc), .ref g2, .ref g3, .ref g4, .int (nI oc), .ref g5, .ref g6, .ref g7, .ref g8]))] := hD
  refine lv_aload_n hx hb d_O_gate_93 rfl (lv_at hl 1 rfl) ?_
  refine va_get (D := (dC, dI)) (ci := 4) (v := .ref g4) (C := R_O) (T := F_O) (N := 17) hx hb hts in_O hown hK hP 3 rfl rfl 11 (by decide) (hts _ kw_539) (fun _ h9 => h9) rfl d_O_gate_94 ?_
  refine lv_aload_n hx hb d_O_gate_97 rfl (lv_at hl 1 rfl) ?_
  refine va_get (D := (dC, dI)) (ci := 4) (v := .int (nI gc)) (C := R_O) (T := F_O) (N := 17) hx hb hts in_O hown hK hP 3 rfl rfl 8 (by decide) (hts _ kw_536) (fun _ h9 => h9) rfl d_O_gate_98 ?_
  refine lv_iload_n hx hb d_O_gate_101 rfl (lv_at hl 2 rfl) ?_
  refine lv_iconst (v := nI 5) hx hb d_O_gate_102 (by decide) ?_
  refine lv_icmp_ne (tgt := 110) hx hb d_O_gate_103 (by decide) (fun hc => absurd hc (fun z => z rfl)) (fun _ => ?_)
  refine lv_iload_n hx hb d_O_gate_106 rfl (lv_at hl 3 rfl) ?_
  refine lv_goto (tgt := 111) hx hb d_O_gate_107 (by decide) ?_
  refine va_iast (D := (dC, dI)) (i := (nI gc)) (x := (nI a)) hx hb hK hP hD hS 2 0 rfl rfl (vp_in_nI (by omega) (by decide)) d_O_gate_111 (fun H locs hP hD hS => ?_)
  rw [nI_clamp (by omega), upd_nI] at hP hD
  have hP : va_P (dC, dI) classes [(g2, .inl (cI, 24, .inl (fun c => nI ((va_up kd gc 5) c)))), (g3, .inl (cI, 24, .inl (fun c => nI ((va_up lf gc a) c)))), (g4, .inl (cI, 24, .inl (fun c => nI ((va_up rg gc a) c)))), (o0, .inr (4, [.int (nI 0), .long (lN p), .int (nI n), .long (lN vr), .int (nI ir), .long (lN od), .int (nI cc), .ref g1, .int (nI gc), .ref g2, .ref g3, .ref g4, .int (nI oc), .ref g5, .ref g6, .ref g7, .ref g8]))] H := hP
  have hD : va_D A [(g2, .inl (cI, 24, .inl (fun c => nI ((va_up kd gc 5) c)))), (g3, .inl (cI, 24, .inl (fun c => nI ((va_up lf gc a) c)))), (g4, .inl (cI, 24, .inl (fun c => nI ((va_up rg gc a) c)))), (o0, .inr (4, [.int (nI 0), .long (lN p), .int (nI n), .long (lN vr), .int (nI ir), .long (lN od), .int (nI cc), .ref g1, .int (nI gc), .ref g2, .ref g3, .ref g4, .int (nI oc), .ref g5, .ref g6, .ref g7, .ref g8]))] := hD
  refine lv_aload_n hx hb d_O_gate_112 rfl (lv_at hl 1 rfl) ?_
  refine lv_dup hx hb d_O_gate_113 rfl ?_
  refine va_get (D := (dC, dI)) (ci := 4) (v := .int (nI gc)) (C := R_O) (T := F_O) (N := 17) hx hb hts in_O hown hK hP 3 rfl rfl 8 (by decide) (hts _ kw_536) (fun _ h9 => h9) rfl d_O_gate_114 ?_
  refine lv_iconst (v := nI 1) hx hb d_O_gate_117 (by decide) ?_
  refine lv_iadd hx hb d_O_gate_118 ?_
  refine lv_topi (nm_r (show _ = nI (gc + 1) from nI_add gc 1) ?_)
  refine va_put (D := (dC, dI)) (ci := 4) (v := .int (nI (gc + 1))) (ty := .int) (C := R_O) (T := F_O) (N := 17) hx hb hts in_O t_O t_O_ok n_O hown hK hP hD hS 3 rfl rfl 8 (by decide) (hts _ kw_536) (fun _ h9 => h9) rfl (by decide +kernel) rfl rfl (Nat.le_of_ble_eq_true rfl) d_O_gate_119 (fun H locs hP hD hS => ?_)
  have hP : va_P (dC, dI) classes [(g2, .inl (cI, 24, .inl (fun c => nI ((va_up kd gc 5) c)))), (g3, .inl (cI, 24, .inl (fun c => nI ((va_up lf gc a) c)))), (g4, .inl (cI, 24, .inl (fun c => nI ((va_up rg gc a) c)))), (o0, .inr (4, [.int (nI 0), .long (lN p), .int (nI n), .long (lN vr), .int (nI ir), .long (lN od), .int (nI cc), .ref g1, .int (nI (gc + 1)), .ref g2, .ref g3, .ref g4, .int (nI oc), .ref g5, .ref g6, .ref g7, .ref g8]))] H := hP
  have hD : va_D A [(g2, .inl (cI, 24, .inl (fun c => nI ((va_up kd gc 5) c)))), (g3, .inl (cI, 24, .inl (fun c => nI ((va_up lf gc a) c)))), (g4, .inl (cI, 24, .inl (fun c => nI ((va_up rg gc a) c)))), (o0, .inr (4, [.int (nI 0), .long (lN p), .int (nI n), .long (lN vr), .int (nI ir), .long (lN od), .int (nI cc), .ref g1, .int (nI (gc + 1)), .ref g2, .ref g3, .ref g4, .int (nI oc), .ref g5, .ref g6, .ref g7, .ref g8]))] := hD
  refine lv_aload_n hx hb d_O_gate_122 rfl (lv_at hl 1 rfl) ?_
  refine va_get (D := (dC, dI)) (ci := 4) (v := .int (nI cc)) (C := R_O) (T := F_O) (N := 17) hx hb hts in_O hown hK hP 3 rfl rfl 6 (by decide) (hts _ kw_534) (fun _ h9 => h9) rfl d_O_gate_123 ?_
  refine lv_aload_n hx hb d_O_gate_126 rfl (lv_at hl 1 rfl) ?_
  refine va_get (D := (dC, dI)) (ci := 4) (v := .int (nI (gc + 1))) (C := R_O) (T := F_O) (N := 17) hx hb hts in_O hown hK hP 3 rfl rfl 8 (by decide) (hts _ kw_536) (fun _ h9 => h9) rfl d_O_gate_127 ?_
  refine lv_iadd hx hb d_O_gate_130 ?_
  refine lv_topi (nm_r (show _ = nI (cc + gc + 1) from (nI_add cc (gc + 1)).trans rfl) ?_)
  refine lv_iconst (v := nI 1) hx hb d_O_gate_131 (by decide) ?_
  refine lv_isub hx hb d_O_gate_132 ?_
  refine lv_topi (nm_r (show _ = nI (cc + gc) from nI_pred (cc + gc)) ?_)
  have hP := hP.sub (ws' := [(o0, .inr (4, [.int (nI 0), .long (lN p), .int (nI n), .long (lN vr), .int (nI ir), .long (lN od), .int (nI cc), .ref g1, .int (nI (gc + 1)), .ref g2, .ref g3, .ref g4, .int (nI oc), .ref g5, .ref g6, .ref g7, .ref g8])), (g2, .inl (cI, 24, .inl (fun c => nI ((va_up kd gc 5) c)))), (g3, .inl (cI, 24, .inl (fun c => nI ((va_up lf gc a) c)))), (g4, .inl (cI, 24, .inl (fun c => nI ((va_up rg gc a) c))))]) [3, 0, 1, 2] rfl
  have hD := hD.sub (ws' := [(o0, .inr (4, [.int (nI 0), .long (lN p), .int (nI n), .long (lN vr), .int (nI ir), .long (lN od), .int (nI cc), .ref g1, .int (nI (gc + 1)), .ref g2, .ref g3, .ref g4, .int (nI oc), .ref g5, .ref g6, .ref g7, .ref g8])), (g2, .inl (cI, 24, .inl (fun c => nI ((va_up kd gc 5) c)))), (g3, .inl (cI, 24, .inl (fun c => nI ((va_up lf gc a) c)))), (g4, .inl (cI, 24, .inl (fun c => nI ((va_up rg gc a) c))))]) [3, 0, 1, 2] (by decide) rfl
  exact W.iret (v := nI (cc + gc)) hx hb hr (fun t9 ht hW => ⟨⟨nI (cc + gc), (), rfl, rfl, by rw [ht]; exact hP, va_K.moved hW.alike hK, hD⟩, hS.F ht⟩) hS.2.2 d_O_gate_133
set_option maxHeartbeats 4000000 in
set_option maxRecDepth 100000 in
theorem c_O_gateYK (l : Launch) (dC : Nat → ClassId) (dI : Nat → Nat → Nat) (cI cL : ClassId) (sz : Nat) (o0 g1 g2 g3 g4 g5 g6 g7 g8 : Nat) (fl p n vr ir od cc gc oc : Nat) (kd lf rg : Nat → Nat) (kk a b : Nat) (hkk : kk < 5) (ha : a < cc + gc) (hb2 : b < cc + gc) (hl1 : cc + gc < 2 ^ 31) (hgc : gc < 24) : Met l y_O_gate w_O_gate ({ frames := 1, cells := 0, slots := 0, locals := 21 } : Room) (va_Pc [.ref o0, .int (nI kk), .int (nI a), .int (nI b)] (wq_W (dC, dI) classes [(o0, .inr (4, [.int (nI fl), .long (lN p), .int (nI n), .long (lN vr), .int (nI ir), .long (lN od), .int (nI cc), .ref g1, .int (nI gc), .ref g2, .ref g3, .ref g4, .int (nI oc), .ref g5, .ref g6, .ref g7, .ref g8])), (g2, .inl (cI, 24, .inl (fun c => nI (kd c)))), (g3, .inl (cI, 24, .inl (fun c => nI (lf c)))), (g4, .inl (cI, 24, .inl (fun c => nI (rg c))))] [(cI, .int), (cL, .long)] sz)) (va_Qi (fun (r : Int32) (u : Unit) => r = nI (cc + gc)) (fun (u : Unit) t => wq_B (dC, dI) classes [(cI, .int), (cL, .long)] (va_A [(o0, .inr (4, [.int (nI fl), .long (lN p), .int (nI n), .long (lN vr), .int (nI ir), .long (lN od), .int (nI cc), .ref g1, .int (nI gc), .ref g2, .ref g3, .ref g4, .int (nI oc), .ref g5, .ref g6, .ref g7, .ref g8])), (g2, .inl (cI, 24, .inl (fun c => nI (kd c)))), (g3, .inl (cI, 24, .inl (fun c => nI (lf c)))), (g4, .inl (cI, 24, .inl (fun c => nI (rg c))))] sz) [(o0, .inr (4, [.int (nI 0), .long (lN p), .int (nI n), .long (lN vr), .int (nI ir), .long (lN od), .int (nI cc), .ref g1, .int (nI (gc + 1)), .ref g2, .ref g3, .ref g4, .int (nI oc), .ref g5, .ref g6, .ref g7, .ref g8])), (g2, .inl (cI, 24, .inl (fun c => nI ((va_up kd gc kk) c)))), (g3, .inl (cI, 24, .inl (fun c => nI ((va_up lf gc a) c)))), (g4, .inl (cI, 24, .inl (fun c => nI ((va_up rg gc b) c))))] t) (va_A [(o0, .inr (4, [.int (nI fl), .long (lN p), .int (nI n), .long (lN vr), .int (nI ir), .long (lN od), .int (nI cc), .ref g1, .int (nI gc), .ref g2, .ref g3, .ref g4, .int (nI oc), .ref g5, .ref g6, .ref g7, .ref g8])), (g2, .inl (cI, 24, .inl (fun c => nI (kd c)))), (g3, .inl (cI, 24, .inl (fun c => nI (lf c)))), (g4, .inl (cI, 24, .inl (fun c => nI (rg c))))] sz)) 0 0 (va_A [(o0, .inr (4, [.int (nI fl), .long (lN p), .int (nI n), .long (lN vr), .int (nI ir), .long (lN od), .int (nI cc), .ref g1, .int (nI gc), .ref g2, .ref g3, .ref g4, .int (nI oc), .ref g5, .ref g6, .ref g7, .ref g8])), (g2, .inl (cI, 24, .inl (fun c => nI (kd c)))), (g3, .inl (cI, 24, .inl (fun c => nI (lf c)))), (g4, .inl (cI, 24, .inl (fun c => nI (rg c))))] sz) := by
  refine Met.ofW (cc := b_O_gate) (maxL := 5) (ret := (Option.some Jvm.ClassFile.FieldType.int)) (by decide) rfl ?_
  intro pg en st mm ar bw me co s₁ B hml hv
  obtain ⟨rfl, hsz, hP, hK, hD0, hN⟩ := hv
  have hx := B.exec
  have hb := B.bytes
  have hr := B.returns
  have hlocks := B.notSynchronized
  have hts0 := atoms_spec (ws := w_O_gate) B.pre
  have hts : ∀ w ∈ gw, w.before _ st = true := fun w h => hts0 w (List.mem_cons_of_mem _ h)
  have hown : st.vm.findClass R_O = some mm.cls := findClass_of_methodNamed B.named
  subst hsz
  have hD := hD0.self (sz := st.heap.size)
  generalize hAe : va_A [(o0, .inr (4, [.int (nI fl), .long (lN p), .int (nI n), .long (lN vr), .int (nI ir), .long (lN od), .int (nI cc), .ref g1, .int (nI gc), .ref g2, .ref g3, .ref g4, .int (nI oc), .ref g5, .ref g6, .ref g7, .ref g8])), (g2, .inl (cI, 24, .inl (fun c => nI (kd c)))), (g3, .inl (cI, 24, .inl (fun c => nI (lf c)))), (g4, .inl (cI, 24, .inl (fun c => nI (rg c))))] st.heap.size = A at hD ⊢
  have hA : ∀ q : Nat, st.heap.size ≤ q → A q := fun q h => by rw [← hAe]; exact Or.inr h
  have hS : va_S A st.heap st.heap [] := va_S.rf
  have hl := lv_entry ([.ref o0, .int (nI kk), .int (nI a), .int (nI b)]) (n := 5) (Nat.le_of_ble_eq_true rfl)
  rw [lg_entry_eq]
  generalize (lg_sl ([.ref o0, .int (nI kk), .int (nI a), .int (nI b)]) ++ List.replicate (5 - (lg_sl ([.ref o0, .int (nI kk), .int (nI a), .int (nI b)])).length) Slot.unset).toArray = ls at hl ⊢
  have hl : lv_has ls 5 [(0, .ref o0), (1, .int (nI kk)), (2, .int (nI a)), (3, .int (nI b))] := hl
  refine lv_aload_n hx hb d_O_gate_0 rfl (lv_at hl 0 rfl) ?_
  refine lv_iload_n hx hb d_O_gate_1 rfl (lv_at hl 2 rfl) ?_
  refine vp_callSi (va_Run.run (va_runV (As := [.int (nI a)]) (rest := []) ⟨hx, hb, hml, hown, hts⟩ (c_O_isLine l dC dI cI cL o0 g1 g2 g3 g4 g5 g6 g7 g8 fl p n vr ir od cc gc oc (nI a)) (cwV 1 hts (gi_V kw_673 kw_675 ks_O_isLine kw_5 gi_O_isLine) rfl rfl rfl ⟨rfl, by decide, by decide, by decide⟩ ⟨Nat.le_of_ble_eq_true rfl, Nat.le_of_ble_eq_true rfl⟩) (wq_preVR hP hK hN [0] rfl (q0 := 0) (ci := 4) rfl rfl rfl) rfl rfl hl.1 rfl (lv_room (Nat.le_of_ble_eq_true rfl)) d_O_gate_2 ⟨Nat.le_of_ble_eq_true rfl, Nat.le_of_ble_eq_true rfl⟩)) (fun r hq => ?_)
  have hq : r = 1 := by
    rcases hq with ⟨e9, -⟩ | ⟨-, e9⟩
    · exact e9
    · exact absurd e9 (in_ok ha hl1)
  subst hq
  refine lv_if_eq (tgt := 25) hx hb d_O_gate_5 (by decide) (fun hc => absurd hc (show ¬ (1 : Int32) = 0 from by decide)) (fun _ => ?_)
  refine lv_iload_n hx hb d_O_gate_8 rfl (lv_at hl 1 rfl) ?_
  refine lv_iconst (v := nI 5) hx hb d_O_gate_9 (by decide) ?_
  refine lv_icmp_eq (tgt := 21) hx hb d_O_gate_10 (by decide) (fun hc => absurd hc (fun z => nI_5 hkk z)) (fun _ => ?_)
  refine lv_aload_n hx hb d_O_gate_13 rfl (lv_at hl 0 rfl) ?_
  refine lv_iload_n hx hb d_O_gate_14 rfl (lv_at hl 3 rfl) ?_
  refine vp_callSi (va_Run.run (va_runV (As := [.int (nI b)]) (rest := []) ⟨hx, hb, hml, hown, hts⟩ (c_O_isLine l dC dI cI cL o0 g1 g2 g3 g4 g5 g6 g7 g8 fl p n vr ir od cc gc oc (nI b)) (cwV 1 hts (gi_V kw_673 kw_675 ks_O_isLine kw_5 gi_O_isLine) rfl rfl rfl ⟨rfl, by decide, by decide, by decide⟩ ⟨Nat.le_of_ble_eq_true rfl, Nat.le_of_ble_eq_true rfl⟩) (wq_preVR hP hK hN [0] rfl (q0 := 0) (ci := 4) rfl rfl rfl) rfl rfl hl.1 rfl (lv_room (Nat.le_of_ble_eq_true rfl)) d_O_gate_15 ⟨Nat.le_of_ble_eq_true rfl, Nat.le_of_ble_eq_true rfl⟩)) (fun r2 hq2 => ?_)
  have hq2 : r2 = 1 := by
    rcases hq2 with ⟨e9, -⟩ | ⟨-, e9⟩
    · exact e9
    · exact absurd e9 (in_ok hb2 hl1)
  subst hq2
  refine lv_if_eq (tgt := 25) hx hb d_O_gate_18 (by decide) (fun hc => absurd hc (show ¬ (1 : Int32) = 0 from by decide)) (fun _ => ?_)
  refine lv_iconst (v := nI 1) hx hb d_O_gate_21 (by decide) ?_
  refine lv_goto (tgt := 26) hx hb d_O_gate_22 (by decide) ?_
  refine lv_istore (lv' := [(4, .int (nI 1)), (0, .ref o0), (1, .int (nI kk)), (2, .int (nI a)), (3, .int (nI b))]) hx hb d_O_gate_26 hl (by decide) rfl (fun ls hl => ?_)
  refine lv_aload_n hx hb d_O_gate_28 rfl (lv_at hl 1 rfl) ?_
  refine lv_iload_n hx hb d_O_gate_29 rfl (lv_at hl 2 rfl) ?_
  refine lv_if_lt (tgt := 38) hx hb d_O_gate_30 (by decide) (fun hc => absurd hc (nI_nn (by omega))) (fun _ => ?_)
  refine lv_iload_n hx hb d_O_gate_33 rfl (lv_at hl 2 rfl) ?_
  refine lv_iconst (v := nI 5) hx hb d_O_gate_34 (by decide) ?_
  refine lv_icmp_le (tgt := 42) hx hb d_O_gate_35 (by decide) (fun _ => ?_) (fun hc => absurd hc (fun z => z ((nI_leI (by omega) (by decide)).mpr (by omega))))
  refine lv_iload hx hb d_O_gate_42 (lv_at hl 0 rfl) ?_
  refine lv_if_ne (tgt := 51) hx hb d_O_gate_44 (by decide) (fun _ => ?_) (fun hc => absurd hc (show ¬ nI 1 = 0 from by decide))
  refine lv_aload_n hx hb d_O_gate_51 rfl (lv_at hl 1 rfl) ?_
  refine va_get (D := (dC, dI)) (ci := 4) (v := .int (nI gc)) (C := R_O) (T := F_O) (N := 17) hx hb hts in_O hown hK hP 0 rfl rfl 8 (by decide) (hts _ kw_536) (fun _ h9 => h9) rfl d_O_gate_52 ?_
  refine lv_bipush (v := nI 24) hx hb d_O_gate_55 (by decide) ?_
  refine lv_icmp_ne (tgt := 64) hx hb d_O_gate_57 (by decide) (fun _ => ?_) (fun hc => absurd hc ((by decide +kernel : ∀ k, k < 24 → ¬ nI k = nI 24) gc hgc))
  refine lv_iconst (v := nI 0) hx hb d_O_gate_64 (by decide) ?_
  refine wq_i (wr := [(g2, .inl (cI, 24, .inl (fun c => nI (kd c)))), (g3, .inl (cI, 24, .inl (fun c => nI (lf c)))), (g4, .inl (cI, 24, .inl (fun c => nI (rg c))))]) (va_runV (As := [.int (nI 0)]) (rest := []) ⟨hx, hb, hml, hown, hts⟩ (c_O_refused0 l dC dI cI cL st.heap.size o0 g1 g2 g3 g4 g5 g6 g7 g8 fl p n vr ir od cc gc oc) (cwV 1 hts (gi_V kw_588 kw_590 ks_O_refused kw_5 gi_O_refused) rfl rfl rfl ⟨rfl, by decide, by decide, by decide⟩ ⟨Nat.le_of_ble_eq_true rfl, Nat.le_of_ble_eq_true rfl⟩) (wq_preVW hP hD hK hN [0] rfl rfl (q0 := 0) (ci := 4) rfl rfl rfl) rfl rfl hl.1 rfl (lv_room (Nat.le_of_ble_eq_true rfl)) d_O_gate_65 ⟨Nat.le_of_ble_eq_true rfl, Nat.le_of_ble_eq_true rfl⟩) hP hD hS hA [0] [1, 2, 3] rfl rfl rfl (by decide) (fun r u H locs hq hP hD hS hz => ?_)
  have hP : va_P (dC, dI) classes [(g2, .inl (cI, 24, .inl (fun c => nI (kd c)))), (g3, .inl (cI, 24, .inl (fun c => nI (lf c)))), (g4, .inl (cI, 24, .inl (fun c => nI (rg c)))), (o0, .inr (4, [.int (nI 0), .long (lN p), .int (nI n), .long (lN vr), .int (nI ir), .long (lN od), .int (nI cc), .ref g1, .int (nI gc), .ref g2, .ref g3, .ref g4, .int (nI oc), .ref g5, .ref g6, .ref g7, .ref g8]))] H := hP
  have hD : va_D A [(g2, .inl (cI, 24, .inl (fun c => nI (kd c)))), (g3, .inl (cI, 24, .inl (fun c => nI (lf c)))), (g4, .inl (cI, 24, .inl (fun c => nI (rg c)))), (o0, .inr (4, [.int (nI 0), .long (lN p), .int (nI n), .long (lN vr), .int (nI ir), .long (lN od), .int (nI cc), .ref g1, .int (nI gc), .ref g2, .ref g3, .ref g4, .int (nI oc), .ref g5, .ref g6, .ref g7, .ref g8]))] := hD
  subst hq
  refine lv_if_eq (tgt := 73) hx hb d_O_gate_68 (by decide) (fun _ => ?_) (fun hc => absurd hc (fun z => z rfl))
  refine lv_aload_n hx hb d_O_gate_73 rfl (lv_at hl 1 rfl) ?_
  refine va_get (D := (dC, dI)) (ci := 4) (v := .ref g2) (C := R_O) (T := F_O) (N := 17) hx hb hts in_O hown hK hP 3 rfl rfl 9 (by decide) (hts _ kw_537) (fun _ h9 => h9) rfl d_O_gate_74 ?_
  refine lv_aload_n hx hb d_O_gate_77 rfl (lv_at hl 1 rfl) ?_
  refine va_get (D := (dC, dI)) (ci := 4) (v := .int (nI gc)) (C := R_O) (T := F_O) (N := 17) hx hb hts in_O hown hK hP 3 rfl rfl 8 (by decide) (hts _ kw_536) (fun _ h9 => h9) rfl d_O_gate_78 ?_
  refine lv_iload_n hx hb d_O_gate_81 rfl (lv_at hl 2 rfl) ?_
  refine va_iast (D := (dC, dI)) (i := (nI gc)) (x := (nI kk)) hx hb hK hP hD hS 0 0 rfl rfl (vp_in_nI (by omega) (by decide)) d_O_gate_82 (fun H locs hP hD hS => ?_)
  rw [nI_clamp (by omega), upd_nI] at hP hD
  have hP : va_P (dC, dI) classes [(g2, .inl (cI, 24, .inl (fun c => nI ((va_up kd gc kk) c)))), (g3, .inl (cI, 24, .inl (fun c => nI (lf c)))), (g4, .inl (cI, 24, .inl (fun c => nI (rg c)))), (o0, .inr (4, [.int (nI 0), .long (lN p), .int (nI n), .long (lN vr), .int (nI ir), .long (lN od), .int (nI cc), .ref g1, .int (nI gc), .ref g2, .ref g3, .ref g4, .int (nI oc), .ref g5, .ref g6, .ref g7, .ref g8]))] H := hP
  have hD : va_D A [(g2, .inl (cI, 24, .inl (fun c => nI ((va_up kd gc kk) c)))), (g3, .inl (cI, 24, .inl (fun c => nI (lf c)))), (g4, .inl (cI, 24, .inl (fun c => nI (rg c)))), (o0, .inr (4, [.int (nI 0), .long (lN p), .int (nI n), .long (lN vr), .int (nI ir), .long (lN od), .int (nI cc), .ref g1, .int (nI gc), .ref g2, .ref g3, .ref g4, .int (nI oc), .ref g5, .ref g6, .ref g7, .ref g8]))] := hD
  refine lv_aload_n hx hb d_O_gate_83 rfl (lv_at hl 1 rfl) ?_
  refine va_get (D := (dC, dI)) (ci := 4) (v := .ref g3) (C := R_O) (T := F_O) (N := 17) hx hb hts in_O hown hK hP 3 rfl rfl 10 (by decide) (hts _ kw_538) (fun _ h9 => h9) rfl d_O_gate_84 ?_
  refine lv_aload_n hx hb d_O_gate_87 rfl (lv_at hl 1 rfl) ?_
  refine va_get (D := (dC, dI)) (ci := 4) (v := .int (nI gc)) (C := R_O) (T := F_O) (N := 17) hx hb hts in_O hown hK hP 3 rfl rfl 8 (by decide) (hts _ kw_536) (fun _ h9 => h9) rfl d_O_gate_88 ?_
  refine lv_iload_n hx hb d_O_gate_91 rfl (lv_at hl 3 rfl) ?_
  refine va_iast (D := (dC, dI)) (i := (nI gc)) (x := (nI a)) hx hb hK hP hD hS 1 0 rfl rfl (vp_in_nI (by omega) (by decide)) d_O_gate_92 (fun H locs hP hD hS => ?_)
  rw [nI_clamp (by omega), upd_nI] at hP hD
  have hP : va_P (dC, dI) classes [(g2, .inl (cI, 24, .inl (fun c => nI ((va_up kd gc kk) c)))), (g3, .inl (cI, 24, .inl (fun c => nI ((va_up lf gc a) c)))), (g4, .inl (cI, 24, .inl (fun c => nI (rg c)))), (o0, .inr (4, [.int (nI 0), .long (lN p), .int (nI n), .long (lN vr), .int (nI ir), .long (lN od), .int (nI cc), .ref g1, .int (nI gc), .ref g2, .ref g3, .ref g4, .int (nI oc), .ref g5, .ref g6, .ref g7, .ref g8]))] H := hP
  have hD : va_D A [(g2, .inl (cI, 24, .inl (fun c => nI ((va_up kd gc kk) c)))), (g3, .inl (cI, 24, .inl (fun c => nI ((va_up lf gc a) c)))), (g4, .inl (cI, 24, .inl (fun c => nI (rg c)))), (o0, .inr (4, [.int (nI 0), .long (lN p), .int (nI n), .long (lN vr), .int (nI ir), .long (lN od), .int (nI cc), .ref g1, .int (nI gc), .ref g2, .ref g3, .ref g4, .int (nI oc), .ref g5, .ref g6, .ref g7, .ref g8]))] := hD
  refine lv_aload_n hx hb d_O_gate_93 rfl (lv_at hl 1 rfl) ?_
  refine va_get (D := (dC, dI)) (ci := 4) (v := .ref g4) (C := R_O) (T := F_O) (N := 17) hx hb hts in_O hown hK hP 3 rfl rfl 11 (by decide) (hts _ kw_539) (fun _ h9 => h9) rfl d_O_gate_94 ?_
  refine lv_aload_n hx hb d_O_gate_97 rfl (lv_at hl 1 rfl) ?_
  refine va_get (D := (dC, dI)) (ci := 4) (v := .int (nI gc)) (C := R_O) (T := F_O) (N := 17) hx hb hts in_O hown hK hP 3 rfl rfl 8 (by decide) (hts _ kw_536) (fun _ h9 => h9) rfl d_O_gate_98 ?_
  refine lv_iload_n hx hb d_O_gate_101 rfl (lv_at hl 2 rfl) ?_
  refine lv_iconst (v := nI 5) hx hb d_O_gate_102 (by decide) ?_
  refine lv_icmp_ne (tgt := 110) hx hb d_O_gate_103 (by decide) (fun _ => ?_) (fun hc => absurd hc (fun z => nI_5 hkk z))
  refine lv_iload_n hx hb d_O_gate_110 rfl (lv_at hl 4 rfl) ?_
  refine va_iast (D := (dC, dI)) (i := (nI gc)) (x := (nI b)) hx hb hK hP hD hS 2 0 rfl rfl (vp_in_nI (by omega) (by decide)) d_O_gate_111 (fun H locs hP hD hS => ?_)
  rw [nI_clamp (by omega), upd_nI] at hP hD
  have hP : va_P (dC, dI) classes [(g2, .inl (cI, 24, .inl (fun c => nI ((va_up kd gc kk) c)))), (g3, .inl (cI, 24, .inl (fun c => nI ((va_up lf gc a) c)))), (g4, .inl (cI, 24, .inl (fun c => nI ((va_up rg gc b) c)))), (o0, .inr (4, [.int (nI 0), .long (lN p), .int (nI n), .long (lN vr), .int (nI ir), .long (lN od), .int (nI cc), .ref g1, .int (nI gc), .ref g2, .ref g3, .ref g4, .int (nI oc), .ref g5, .ref g6, .ref g7, .ref g8]))] H := hP
  have hD : va_D A [(g2, .inl (cI, 24, .inl (fun c => nI ((va_up kd gc kk) c)))), (g3, .inl (cI, 24, .inl (fun c => nI ((va_up lf gc a) c)))), (g4, .inl (cI, 24, .inl (fun c => nI ((va_up rg gc b) c)))), (o0, .inr (4, [.int (nI 0), .long (lN p), .int (nI n), .long (lN vr), .int (nI ir), .long (lN od), .int (nI cc), .ref g1, .int (nI gc), .ref g2, .ref g3, .ref g4, .int (nI oc), .ref g5, .ref g6, .ref g7, .ref g8]))] := hD
  refine lv_aload_n hx hb d_O_gate_112 rfl (lv_at hl 1 rfl) ?_
  refine lv_dup hx hb d_O_gate_113 rfl ?_
  refine va_get (D := (dC, dI)) (ci := 4) (v := .int (nI gc)) (C := R_O) (T := F_O) (N := 17) hx hb hts in_O hown hK hP 3 rfl rfl 8 (by decide) (hts _ kw_536) (fun _ h9 => h9) rfl d_O_gate_114 ?_
  refine lv_iconst (v := nI 1) hx hb d_O_gate_117 (by decide) ?_
  refine lv_iadd hx hb d_O_gate_118 ?_
  refine lv_topi (nm_r (show _ = nI (gc + 1) from nI_add gc 1) ?_)
  refine va_put (D := (dC, dI)) (ci := 4) (v := .int (nI (gc + 1))) (ty := .int) (C := R_O) (T := F_O) (N := 17) hx hb hts in_O t_O t_O_ok n_O hown hK hP hD hS 3 rfl rfl 8 (by decide) (hts _ kw_536) (fun _ h9 => h9) rfl (by decide +kernel) rfl rfl (Nat.le_of_ble_eq_true rfl) d_O_gate_119 (fun H locs hP hD hS => ?_)
  have hP : va_P (dC, dI) classes [(g2, .inl (cI, 24, .inl (fun c => nI ((va_up kd gc kk) c)))), (g3, .inl (cI, 24, .inl (fun c => nI ((va_up lf gc a) c)))), (g4, .inl (cI, 24, .inl (fun c => nI ((va_up rg gc b) c)))), (o0, .inr (4, [.int (nI 0), .long (lN p), .int (nI n), .long (lN vr), .int (nI ir), .long (lN od), .int (nI cc), .ref g1, .int (nI (gc + 1)), .ref g2, .ref g3, .ref g4, .int (nI oc), .ref g5, .ref g6, .ref g7, .ref g8]))] H := hP
  have hD : va_D A [(g2, .inl (cI, 24, .inl (fun c => nI ((va_up kd gc kk) c)))), (g3, .inl (cI, 24, .inl (fun c => nI ((va_up lf gc a) c)))), (g4, .inl (cI, 24, .inl (fun c => nI ((va_up rg gc b) c)))), (o0, .inr (4, [.int (nI 0), .long (lN p), .int (nI n), .long (lN vr), .int (nI ir), .long (lN od), .int (nI cc), .ref g1, .int (nI (gc + 1)), .ref g2, .ref g3, .ref g4, .int (nI oc), .ref g5, .ref g6, .ref g7, .ref g8]))] := hD
  refine lv_aload_n hx hb d_O_gate_122 rfl (lv_at hl 1 rfl) ?_
  refine va_get (D := (dC, dI)) (ci := 4) (v := .int (nI cc)) (C := R_O) (T := F_O) (N := 17) hx hb hts in_O hown hK hP 3 rfl rfl 6 (by decide) (hts _ kw_534) (fun _ h9 => h9) rfl d_O_gate_123 ?_
  refine lv_aload_n hx hb d_O_gate_126 rfl (lv_at hl 1 rfl) ?_
  refine va_get (D := (dC, dI)) (ci := 4) (v := .int (nI (gc + 1))) (C := R_O) (T := F_O) (N := 17) hx hb hts in_O hown hK hP 3 rfl rfl 8 (by decide) (hts _ kw_536) (fun _ h9 => h9) rfl d_O_gate_127 ?_
  refine lv_iadd hx hb d_O_gate_130 ?_
  refine lv_topi (nm_r (show _ = nI (cc + gc + 1) from (nI_add cc (gc + 1)).trans rfl) ?_)
  refine lv_iconst (v := nI 1) hx hb d_O_gate_131 (by decide) ?_
  refine lv_isub hx hb d_O_gate_132 ?_
  refine lv_topi (nm_r (show _ = nI (cc + gc) from nI_pred (cc + gc)) ?_)
  have hP := hP.sub (ws' := [(o0, .inr (4, [.int (nI 0), .long (lN p), .int (nI n), .long (lN vr), .int (nI ir), .long (lN od), .int (nI cc), .ref g1, .int (nI (gc + 1)), .ref g2, .ref g3, .ref g4, .int (nI oc), .ref g5, .ref g6, .ref g7, .ref g8])), (g2, .inl (cI, 24, .inl (fun c => nI ((va_up kd gc kk) c)))), (g3, .inl (cI, 24, .inl (fun c => nI ((va_up lf gc a) c)))), (g4, .inl (cI, 24, .inl (fun c => nI ((va_up rg gc b) c))))]) [3, 0, 1, 2] rfl
  have hD := hD.sub (ws' := [(o0, .inr (4, [.int (nI 0), .long (lN p), .int (nI n), .long (lN vr), .int (nI ir), .long (lN od), .int (nI cc), .ref g1, .int (nI (gc + 1)), .ref g2, .ref g3, .ref g4, .int (nI oc), .ref g5, .ref g6, .ref g7, .ref g8])), (g2, .inl (cI, 24, .inl (fun c => nI ((va_up kd gc kk) c)))), (g3, .inl (cI, 24, .inl (fun c => nI ((va_up lf gc a) c)))), (g4, .inl (cI, 24, .inl (fun c => nI ((va_up rg gc b) c))))]) [3, 0, 1, 2] (by decide) rfl
  exact W.iret (v := nI (cc + gc)) hx hb hr (fun t9 ht hW => ⟨⟨nI (cc + gc), (), rfl, rfl, by rw [ht]; exact hP, va_K.moved hW.alike hK, hD⟩, hS.F ht⟩) hS.2.2 d_O_gate_133
set_option maxHeartbeats 4000000 in
set_option maxRecDepth 100000 in
theorem c_O_gateK (l : Launch) (dC : Nat → ClassId) (dI : Nat → Nat → Nat) (cI cL : ClassId) (sz : Nat) (o0 g1 g2 g3 g4 g5 g6 g7 g8 : Nat) (fl p n vr ir od cc gc oc : Nat) (y0 y1 y2 : Int32) (hy : y0 < 0 ∨ ¬ y0 ≤ nI 5) : Met l y_O_gate w_O_gate ({ frames := 1, cells := 0, slots := 0, locals := 21 } : Room) (va_Pc [.ref o0, .int y0, .int y1, .int y2] (wq_W (dC, dI) classes [(o0, .inr (4, [.int (nI fl), .long (lN p), .int (nI n), .long (lN vr), .int (nI ir), .long (lN od), .int (nI cc), .ref g1, .int (nI gc), .ref g2, .ref g3, .ref g4, .int (nI oc), .ref g5, .ref g6, .ref g7, .ref g8]))] [(cI, .int), (cL, .long)] sz)) (va_Qi (fun (r : Int32) (u : Unit) => r = nI 0) (fun (u : Unit) t => wq_B (dC, dI) classes [(cI, .int), (cL, .long)] (va_A [(o0, .inr (4, [.int (nI fl), .long (lN p), .int (nI n), .long (lN vr), .int (nI ir), .long (lN od), .int (nI cc), .ref g1, .int (nI gc), .ref g2, .ref g3, .ref g4, .int (nI oc), .ref g5, .ref g6, .ref g7, .ref g8]))] sz) [(o0, .inr (4, [.int (nI 1), .long (lN p), .int (nI n), .long (lN vr), .int (nI ir), .long (lN od), .int (nI cc), .ref g1, .int (nI gc), .ref g2, .ref g3, .ref g4, .int (nI oc), .ref g5, .ref g6, .ref g7, .ref g8]))] t) (va_A [(o0, .inr (4, [.int (nI fl), .long (lN p), .int (nI n), .long (lN vr), .int (nI ir), .long (lN od), .int (nI cc), .ref g1, .int (nI gc), .ref g2, .ref g3, .ref g4, .int (nI oc), .ref g5, .ref g6, .ref g7, .ref g8]))] sz)) 0 0 (va_A [(o0, .inr (4, [.int (nI fl), .long (lN p), .int (nI n), .long (lN vr), .int (nI ir), .long (lN od), .int (nI cc), .ref g1, .int (nI gc), .ref g2, .ref g3, .ref g4, .int (nI oc), .ref g5, .ref g6, .ref g7, .ref g8]))] sz) := by
  refine Met.ofW (cc := b_O_gate) (maxL := 5) (ret := (Option.some Jvm.ClassFile.FieldType.int)) (by decide) rfl ?_
  intro pg en st mm ar bw me co s₁ B hml hv
  obtain ⟨rfl, hsz, hP, hK, hD0, hN⟩ := hv
  have hx := B.exec
  have hb := B.bytes
  have hr := B.returns
  have hlocks := B.notSynchronized
  have hts0 := atoms_spec (ws := w_O_gate) B.pre
  have hts : ∀ w ∈ gw, w.before _ st = true := fun w h => hts0 w (List.mem_cons_of_mem _ h)
  have hown : st.vm.findClass R_O = some mm.cls := findClass_of_methodNamed B.named
  subst hsz
  have hD := hD0.self (sz := st.heap.size)
  generalize hAe : va_A [(o0, .inr (4, [.int (nI fl), .long (lN p), .int (nI n), .long (lN vr), .int (nI ir), .long (lN od), .int (nI cc), .ref g1, .int (nI gc), .ref g2, .ref g3, .ref g4, .int (nI oc), .ref g5, .ref g6, .ref g7, .ref g8]))] st.heap.size = A at hD ⊢
  have hA : ∀ q : Nat, st.heap.size ≤ q → A q := fun q h => by rw [← hAe]; exact Or.inr h
  have hS : va_S A st.heap st.heap [] := va_S.rf
  have hl := lv_entry ([.ref o0, .int y0, .int y1, .int y2]) (n := 5) (Nat.le_of_ble_eq_true rfl)
  rw [lg_entry_eq]
  generalize (lg_sl ([.ref o0, .int y0, .int y1, .int y2]) ++ List.replicate (5 - (lg_sl ([.ref o0, .int y0, .int y1, .int y2])).length) Slot.unset).toArray = ls at hl ⊢
  have hl : lv_has ls 5 [(0, .ref o0), (1, .int y0), (2, .int y1), (3, .int y2)] := hl
  have tail : ∀ (q : Nat) (ls : Array Slot), lv_has ls 5 [(0, .ref o0), (1, .int y0), (4, .int (nI q))] → W pg l en (headSpec w_O_gate ({ frames := 1, cells := 0, slots := 0, locals := 21 } : Room)).room st mm ([.ref o0, .int y0, .int y1, .int y2] : List Value).toArray bw me co st.heap [] 0 0 (MQ bw (va_Qi (fun (r : Int32) (u : Unit) => r = nI 0) (fun (u : Unit) t => wq_B (dC, dI) classes [(cI, .int), (cL, .long)] A [(o0, .inr (4, [.int (nI 1), .long (lN p), .int (nI n), .long (lN vr), .int (nI ir), .long (lN od), .int (nI cc), .ref g1, .int (nI gc), .ref g2, .ref g3, .ref g4, .int (nI oc), .ref g5, .ref g6, .ref g7, .ref g8]))] t) A) ([.ref o0, .int y0, .int y1, .int y2] : List Value).toArray st 0 0 A) (F0 mm 28 ls []) := by
    intro q ls hl
    refine lv_aload_n hx hb d_O_gate_28 rfl (lv_at hl 0 rfl) ?_
    refine lv_iload_n hx hb d_O_gate_29 rfl (lv_at hl 1 rfl) ?_
    refine lv_if_lt (tgt := 38) hx hb d_O_gate_30 (by decide) (fun hn => ?_) (fun hn => ?_)
    · refine lv_iconst (v := nI 1) hx hb d_O_gate_38 (by decide) ?_
      refine lv_goto (tgt := 65) hx hb d_O_gate_39 (by decide) ?_
      refine wq_i (wr := []) (va_runV (As := [.int (nI 1)]) (rest := []) ⟨hx, hb, hml, hown, hts⟩ (c_O_refusedK l dC dI cI cL st.heap.size o0 g1 g2 g3 g4 g5 g6 g7 g8 fl p n vr ir od cc gc oc 1 (by decide) (by decide)) (cwV 1 hts (gi_V kw_588 kw_590 ks_O_refused kw_5 gi_O_refused) rfl rfl rfl ⟨rfl, by decide, by decide, by decide⟩ ⟨Nat.le_of_ble_eq_true rfl, Nat.le_of_ble_eq_true rfl⟩) (wq_preVW hP hD hK hN [0] rfl rfl (q0 := 0) (ci := 4) rfl rfl rfl) rfl rfl hl.1 rfl (lv_room (Nat.le_of_ble_eq_true rfl)) d_O_gate_65 ⟨Nat.le_of_ble_eq_true rfl, Nat.le_of_ble_eq_true rfl⟩) hP hD hS hA [0] [] rfl rfl rfl (by decide) (fun r u H locs hq hP hD hS hz => ?_)
      have hP : va_P (dC, dI) classes [(o0, .inr (4, [.int (nI 1), .long (lN p), .int (nI n), .long (lN vr), .int (nI ir), .long (lN od), .int (nI cc), .ref g1, .int (nI gc), .ref g2, .ref g3, .ref g4, .int (nI oc), .ref g5, .ref g6, .ref g7, .ref g8]))] H := hP
      have hD : va_D A [(o0, .inr (4, [.int (nI 1), .long (lN p), .int (nI n), .long (lN vr), .int (nI ir), .long (lN od), .int (nI cc), .ref g1, .int (nI gc), .ref g2, .ref g3, .ref g4, .int (nI oc), .ref g5, .ref g6, .ref g7, .ref g8]))] := hD
      subst hq
      refine lv_if_eq (tgt := 73) hx hb d_O_gate_68 (by decide) (fun hc => absurd hc (show ¬ (1 : Int32) = 0 from by decide)) (fun _ => ?_)
      refine lv_iconst (v := nI 0) hx hb d_O_gate_71 (by decide) ?_
      have hP := hP.sub (ws' := [(o0, .inr (4, [.int (nI 1), .long (lN p), .int (nI n), .long (lN vr), .int (nI ir), .long (lN od), .int (nI cc), .ref g1, .int (nI gc), .ref g2, .ref g3, .ref g4, .int (nI oc), .ref g5, .ref g6, .ref g7, .ref g8]))]) [0] rfl
      have hD := hD.sub (ws' := [(o0, .inr (4, [.int (nI 1), .long (lN p), .int (nI n), .long (lN vr), .int (nI ir), .long (lN od), .int (nI cc), .ref g1, .int (nI gc), .ref g2, .ref g3, .ref g4, .int (nI oc), .ref g5, .ref g6, .ref g7, .ref g8]))]) [0] (by decide) rfl
      exact W.iret (v := nI 0) hx hb hr (fun t9 ht hW => ⟨⟨nI 0, (), rfl, rfl, by rw [ht]; exact hP, va_K.moved hW.alike hK, hD⟩, hS.F ht⟩) hS.2.2 d_O_gate_72
    · refine lv_iload_n hx hb d_O_gate_33 rfl (lv_at hl 1 rfl) ?_
      refine lv_iconst (v := nI 5) hx hb d_O_gate_34 (by decide) ?_
      refine lv_icmp_le (tgt := 42) hx hb d_O_gate_35 (by decide) (fun hc => absurd hc (fun z => hy.elim hn (fun q => q z))) (fun _ => ?_)
      refine lv_iconst (v := nI 1) hx hb d_O_gate_38 (by decide) ?_
      refine lv_goto (tgt := 65) hx hb d_O_gate_39 (by decide) ?_
      refine wq_i (wr := []) (va_runV (As := [.int (nI 1)]) (rest := []) ⟨hx, hb, hml, hown, hts⟩ (c_O_refusedK l dC dI cI cL st.heap.size o0 g1 g2 g3 g4 g5 g6 g7 g8 fl p n vr ir od cc gc oc 1 (by decide) (by decide)) (cwV 1 hts (gi_V kw_588 kw_590 ks_O_refused kw_5 gi_O_refused) rfl rfl rfl ⟨rfl, by decide, by decide, by decide⟩ ⟨Nat.le_of_ble_eq_true rfl, Nat.le_of_ble_eq_true rfl⟩) (wq_preVW hP hD hK hN [0] rfl rfl (q0 := 0) (ci := 4) rfl rfl rfl) rfl rfl hl.1 rfl (lv_room (Nat.le_of_ble_eq_true rfl)) d_O_gate_65 ⟨Nat.le_of_ble_eq_true rfl, Nat.le_of_ble_eq_true rfl⟩) hP hD hS hA [0] [] rfl rfl rfl (by decide) (fun r u H locs hq hP hD hS hz => ?_)
      have hP : va_P (dC, dI) classes [(o0, .inr (4, [.int (nI 1), .long (lN p), .int (nI n), .long (lN vr), .int (nI ir), .long (lN od), .int (nI cc), .ref g1, .int (nI gc), .ref g2, .ref g3, .ref g4, .int (nI oc), .ref g5, .ref g6, .ref g7, .ref g8]))] H := hP
      have hD : va_D A [(o0, .inr (4, [.int (nI 1), .long (lN p), .int (nI n), .long (lN vr), .int (nI ir), .long (lN od), .int (nI cc), .ref g1, .int (nI gc), .ref g2, .ref g3, .ref g4, .int (nI oc), .ref g5, .ref g6, .ref g7, .ref g8]))] := hD
      subst hq
      refine lv_if_eq (tgt := 73) hx hb d_O_gate_68 (by decide) (fun hc => absurd hc (show ¬ (1 : Int32) = 0 from by decide)) (fun _ => ?_)
      refine lv_iconst (v := nI 0) hx hb d_O_gate_71 (by decide) ?_
      have hP := hP.sub (ws' := [(o0, .inr (4, [.int (nI 1), .long (lN p), .int (nI n), .long (lN vr), .int (nI ir), .long (lN od), .int (nI cc), .ref g1, .int (nI gc), .ref g2, .ref g3, .ref g4, .int (nI oc), .ref g5, .ref g6, .ref g7, .ref g8]))]) [0] rfl
      have hD := hD.sub (ws' := [(o0, .inr (4, [.int (nI 1), .long (lN p), .int (nI n), .long (lN vr), .int (nI ir), .long (lN od), .int (nI cc), .ref g1, .int (nI gc), .ref g2, .ref g3, .ref g4, .int (nI oc), .ref g5, .ref g6, .ref g7, .ref g8]))]) [0] (by decide) rfl
      exact W.iret (v := nI 0) hx hb hr (fun t9 ht hW => ⟨⟨nI 0, (), rfl, rfl, by rw [ht]; exact hP, va_K.moved hW.alike hK, hD⟩, hS.F ht⟩) hS.2.2 d_O_gate_72
  refine lv_aload_n hx hb d_O_gate_0 rfl (lv_at hl 0 rfl) ?_
  refine lv_iload_n hx hb d_O_gate_1 rfl (lv_at hl 2 rfl) ?_
  refine vp_callSi (va_Run.run (va_runV (As := [.int y1]) (rest := []) ⟨hx, hb, hml, hown, hts⟩ (c_O_isLine l dC dI cI cL o0 g1 g2 g3 g4 g5 g6 g7 g8 fl p n vr ir od cc gc oc y1) (cwV 1 hts (gi_V kw_673 kw_675 ks_O_isLine kw_5 gi_O_isLine) rfl rfl rfl ⟨rfl, by decide, by decide, by decide⟩ ⟨Nat.le_of_ble_eq_true rfl, Nat.le_of_ble_eq_true rfl⟩) (wq_preVR hP hK hN [0] rfl (q0 := 0) (ci := 4) rfl rfl rfl) rfl rfl hl.1 rfl (lv_room (Nat.le_of_ble_eq_true rfl)) d_O_gate_2 ⟨Nat.le_of_ble_eq_true rfl, Nat.le_of_ble_eq_true rfl⟩)) (fun r hq => ?_)
  rcases hq with ⟨rfl, -⟩ | ⟨rfl, -⟩
  · refine lv_if_eq (tgt := 25) hx hb d_O_gate_5 (by decide) (fun hc => absurd hc (show ¬ (1 : Int32) = 0 from by decide)) (fun _ => ?_)
    refine lv_iload_n hx hb d_O_gate_8 rfl (lv_at hl 1 rfl) ?_
    refine lv_iconst (v := nI 5) hx hb d_O_gate_9 (by decide) ?_
    refine lv_icmp_eq (tgt := 21) hx hb d_O_gate_10 (by decide) (fun hc => absurd hc (bk5 hy)) (fun _ => ?_)
    refine lv_aload_n hx hb d_O_gate_13 rfl (lv_at hl 0 rfl) ?_
    refine lv_iload_n hx hb d_O_gate_14 rfl (lv_at hl 3 rfl) ?_
    refine vp_callSi (va_Run.run (va_runV (As := [.int y2]) (rest := []) ⟨hx, hb, hml, hown, hts⟩ (c_O_isLine l dC dI cI cL o0 g1 g2 g3 g4 g5 g6 g7 g8 fl p n vr ir od cc gc oc y2) (cwV 1 hts (gi_V kw_673 kw_675 ks_O_isLine kw_5 gi_O_isLine) rfl rfl rfl ⟨rfl, by decide, by decide, by decide⟩ ⟨Nat.le_of_ble_eq_true rfl, Nat.le_of_ble_eq_true rfl⟩) (wq_preVR hP hK hN [0] rfl (q0 := 0) (ci := 4) rfl rfl rfl) rfl rfl hl.1 rfl (lv_room (Nat.le_of_ble_eq_true rfl)) d_O_gate_15 ⟨Nat.le_of_ble_eq_true rfl, Nat.le_of_ble_eq_true rfl⟩)) (fun r2 hq2 => ?_)
    rcases hq2 with ⟨rfl, -⟩ | ⟨rfl, -⟩
    · refine lv_if_eq (tgt := 25) hx hb d_O_gate_18 (by decide) (fun hc => absurd hc (show ¬ (1 : Int32) = 0 from by decide)) (fun _ => ?_)
      refine lv_iconst (v := nI 1) hx hb d_O_gate_21 (by decide) ?_
      refine lv_goto (tgt := 26) hx hb d_O_gate_22 (by decide) ?_
      refine lv_istore (lv' := [(4, .int (nI 1)), (0, .ref o0), (1, .int y0), (2, .int y1), (3, .int y2)]) hx hb d_O_gate_26 hl (by decide) rfl (fun ls hl => ?_)
      have hl := lv_sub (l' := [(0, .ref o0), (1, .int y0), (4, .int (nI 1))]) hl [1, 2, 0] rfl
      exact tail 1 ls hl
    · refine lv_if_eq (tgt := 25) hx hb d_O_gate_18 (by decide) (fun _ => ?_) (fun hc => absurd hc (fun z => z rfl))
      refine lv_iconst (v := nI 0) hx hb d_O_gate_25 (by decide) ?_
      refine lv_istore (lv' := [(4, .int (nI 0)), (0, .ref o0), (1, .int y0), (2, .int y1), (3, .int y2)]) hx hb d_O_gate_26 hl (by decide) rfl (fun ls hl => ?_)
      have hl := lv_sub (l' := [(0, .ref o0), (1, .int y0), (4, .int (nI 0))]) hl [1, 2, 0] rfl
      exact tail 0 ls hl
  · refine lv_if_eq (tgt := 25) hx hb d_O_gate_5 (by decide) (fun _ => ?_) (fun hc => absurd hc (fun z => z rfl))
    refine lv_iconst (v := nI 0) hx hb d_O_gate_25 (by decide) ?_
    refine lv_istore (lv' := [(4, .int (nI 0)), (0, .ref o0), (1, .int y0), (2, .int y1), (3, .int y2)]) hx hb d_O_gate_26 hl (by decide) rfl (fun ls hl => ?_)
    have hl := lv_sub (l' := [(0, .ref o0), (1, .int y0), (4, .int (nI 0))]) hl [1, 2, 0] rfl
    exact tail 0 ls hl
set_option maxHeartbeats 4000000 in
set_option maxRecDepth 100000 in
theorem c_O_gateA (l : Launch) (dC : Nat → ClassId) (dI : Nat → Nat → Nat) (cI cL : ClassId) (sz : Nat) (o0 g1 g2 g3 g4 g5 g6 g7 g8 : Nat) (fl p n vr ir od cc gc oc : Nat) (kk : Nat) (hkk : kk ≤ 5) (y1 y2 : Int32) (hy : (y1 < 0 ∨ ¬ y1 < nI (cc + gc))) : Met l y_O_gate w_O_gate ({ frames := 1, cells := 0, slots := 0, locals := 21 } : Room) (va_Pc [.ref o0, .int (nI kk), .int y1, .int y2] (wq_W (dC, dI) classes [(o0, .inr (4, [.int (nI fl), .long (lN p), .int (nI n), .long (lN vr), .int (nI ir), .long (lN od), .int (nI cc), .ref g1, .int (nI gc), .ref g2, .ref g3, .ref g4, .int (nI oc), .ref g5, .ref g6, .ref g7, .ref g8]))] [(cI, .int), (cL, .long)] sz)) (va_Qi (fun (r : Int32) (u : Unit) => r = nI 0) (fun (u : Unit) t => wq_B (dC, dI) classes [(cI, .int), (cL, .long)] (va_A [(o0, .inr (4, [.int (nI fl), .long (lN p), .int (nI n), .long (lN vr), .int (nI ir), .long (lN od), .int (nI cc), .ref g1, .int (nI gc), .ref g2, .ref g3, .ref g4, .int (nI oc), .ref g5, .ref g6, .ref g7, .ref g8]))] sz) [(o0, .inr (4, [.int (nI 2), .long (lN p), .int (nI n), .long (lN vr), .int (nI ir), .long (lN od), .int (nI cc), .ref g1, .int (nI gc), .ref g2, .ref g3, .ref g4, .int (nI oc), .ref g5, .ref g6, .ref g7, .ref g8]))] t) (va_A [(o0, .inr (4, [.int (nI fl), .long (lN p), .int (nI n), .long (lN vr), .int (nI ir), .long (lN od), .int (nI cc), .ref g1, .int (nI gc), .ref g2, .ref g3, .ref g4, .int (nI oc), .ref g5, .ref g6, .ref g7, .ref g8]))] sz)) 0 0 (va_A [(o0, .inr (4, [.int (nI fl), .long (lN p), .int (nI n), .long (lN vr), .int (nI ir), .long (lN od), .int (nI cc), .ref g1, .int (nI gc), .ref g2, .ref g3, .ref g4, .int (nI oc), .ref g5, .ref g6, .ref g7, .ref g8]))] sz) := by
  refine Met.ofW (cc := b_O_gate) (maxL := 5) (ret := (Option.some Jvm.ClassFile.FieldType.int)) (by decide) rfl ?_
  intro pg en st mm ar bw me co s₁ B hml hv
  obtain ⟨rfl, hsz, hP, hK, hD0, hN⟩ := hv
  have hx := B.exec
  have hb := B.bytes
  have hr := B.returns
  have hlocks := B.notSynchronized
  have hts0 := atoms_spec (ws := w_O_gate) B.pre
  have hts : ∀ w ∈ gw, w.before _ st = true := fun w h => hts0 w (List.mem_cons_of_mem _ h)
  have hown : st.vm.findClass R_O = some mm.cls := findClass_of_methodNamed B.named
  subst hsz
  have hD := hD0.self (sz := st.heap.size)
  generalize hAe : va_A [(o0, .inr (4, [.int (nI fl), .long (lN p), .int (nI n), .long (lN vr), .int (nI ir), .long (lN od), .int (nI cc), .ref g1, .int (nI gc), .ref g2, .ref g3, .ref g4, .int (nI oc), .ref g5, .ref g6, .ref g7, .ref g8]))] st.heap.size = A at hD ⊢
  have hA : ∀ q : Nat, st.heap.size ≤ q → A q := fun q h => by rw [← hAe]; exact Or.inr h
  have hS : va_S A st.heap st.heap [] := va_S.rf
  have hl := lv_entry ([.ref o0, .int (nI kk), .int y1, .int y2]) (n := 5) (Nat.le_of_ble_eq_true rfl)
  rw [lg_entry_eq]
  generalize (lg_sl ([.ref o0, .int (nI kk), .int y1, .int y2]) ++ List.replicate (5 - (lg_sl ([.ref o0, .int (nI kk), .int y1, .int y2])).length) Slot.unset).toArray = ls at hl ⊢
  have hl : lv_has ls 5 [(0, .ref o0), (1, .int (nI kk)), (2, .int y1), (3, .int y2)] := hl
  refine lv_aload_n hx hb d_O_gate_0 rfl (lv_at hl 0 rfl) ?_
  refine lv_iload_n hx hb d_O_gate_1 rfl (lv_at hl 2 rfl) ?_
  refine vp_callSi (va_Run.run (va_runV (As := [.int y1]) (rest := []) ⟨hx, hb, hml, hown, hts⟩ (c_O_isLine l dC dI cI cL o0 g1 g2 g3 g4 g5 g6 g7 g8 fl p n vr ir od cc gc oc y1) (cwV 1 hts (gi_V kw_673 kw_675 ks_O_isLine kw_5 gi_O_isLine) rfl rfl rfl ⟨rfl, by decide, by decide, by decide⟩ ⟨Nat.le_of_ble_eq_true rfl, Nat.le_of_ble_eq_true rfl⟩) (wq_preVR hP hK hN [0] rfl (q0 := 0) (ci := 4) rfl rfl rfl) rfl rfl hl.1 rfl (lv_room (Nat.le_of_ble_eq_true rfl)) d_O_gate_2 ⟨Nat.le_of_ble_eq_true rfl, Nat.le_of_ble_eq_true rfl⟩)) (fun r hq => ?_)
  have hq : r = 0 := by
    rcases hq with ⟨-, e9⟩ | ⟨e9, -⟩
    · exact absurd hy e9
    · exact e9
  subst hq
  refine lv_if_eq (tgt := 25) hx hb d_O_gate_5 (by decide) (fun _ => ?_) (fun hc => absurd hc (fun z => z rfl))
  refine lv_iconst (v := nI 0) hx hb d_O_gate_25 (by decide) ?_
  refine lv_istore (lv' := [(4, .int (nI 0)), (0, .ref o0), (1, .int (nI kk)), (2, .int y1), (3, .int y2)]) hx hb d_O_gate_26 hl (by decide) rfl (fun ls hl => ?_)
  refine lv_aload_n hx hb d_O_gate_28 rfl (lv_at hl 1 rfl) ?_
  refine lv_iload_n hx hb d_O_gate_29 rfl (lv_at hl 2 rfl) ?_
  refine lv_if_lt (tgt := 38) hx hb d_O_gate_30 (by decide) (fun hc => absurd hc (nI_nn (by omega))) (fun _ => ?_)
  refine lv_iload_n hx hb d_O_gate_33 rfl (lv_at hl 2 rfl) ?_
  refine lv_iconst (v := nI 5) hx hb d_O_gate_34 (by decide) ?_
  refine lv_icmp_le (tgt := 42) hx hb d_O_gate_35 (by decide) (fun _ => ?_) (fun hc => absurd hc (fun z => z ((nI_leI (by omega) (by decide)).mpr (by omega))))
  refine lv_iload hx hb d_O_gate_42 (lv_at hl 0 rfl) ?_
  refine lv_if_ne (tgt := 51) hx hb d_O_gate_44 (by decide) (fun hc => absurd hc (fun z => z rfl)) (fun _ => ?_)
  refine lv_iconst (v := nI 2) hx hb d_O_gate_47 (by decide) ?_
  refine lv_goto (tgt := 65) hx hb d_O_gate_48 (by decide) ?_
  refine wq_i (wr := []) (va_runV (As := [.int (nI 2)]) (rest := []) ⟨hx, hb, hml, hown, hts⟩ (c_O_refusedK l dC dI cI cL st.heap.size o0 g1 g2 g3 g4 g5 g6 g7 g8 fl p n vr ir od cc gc oc 2 (by decide) (by decide)) (cwV 1 hts (gi_V kw_588 kw_590 ks_O_refused kw_5 gi_O_refused) rfl rfl rfl ⟨rfl, by decide, by decide, by decide⟩ ⟨Nat.le_of_ble_eq_true rfl, Nat.le_of_ble_eq_true rfl⟩) (wq_preVW hP hD hK hN [0] rfl rfl (q0 := 0) (ci := 4) rfl rfl rfl) rfl rfl hl.1 rfl (lv_room (Nat.le_of_ble_eq_true rfl)) d_O_gate_65 ⟨Nat.le_of_ble_eq_true rfl, Nat.le_of_ble_eq_true rfl⟩) hP hD hS hA [0] [] rfl rfl rfl (by decide) (fun r u H locs hq hP hD hS hz => ?_)
  have hP : va_P (dC, dI) classes [(o0, .inr (4, [.int (nI 2), .long (lN p), .int (nI n), .long (lN vr), .int (nI ir), .long (lN od), .int (nI cc), .ref g1, .int (nI gc), .ref g2, .ref g3, .ref g4, .int (nI oc), .ref g5, .ref g6, .ref g7, .ref g8]))] H := hP
  have hD : va_D A [(o0, .inr (4, [.int (nI 2), .long (lN p), .int (nI n), .long (lN vr), .int (nI ir), .long (lN od), .int (nI cc), .ref g1, .int (nI gc), .ref g2, .ref g3, .ref g4, .int (nI oc), .ref g5, .ref g6, .ref g7, .ref g8]))] := hD
  subst hq
  refine lv_if_eq (tgt := 73) hx hb d_O_gate_68 (by decide) (fun hc => absurd hc (show ¬ (1 : Int32) = 0 from by decide)) (fun _ => ?_)
  refine lv_iconst (v := nI 0) hx hb d_O_gate_71 (by decide) ?_
  have hP := hP.sub (ws' := [(o0, .inr (4, [.int (nI 2), .long (lN p), .int (nI n), .long (lN vr), .int (nI ir), .long (lN od), .int (nI cc), .ref g1, .int (nI gc), .ref g2, .ref g3, .ref g4, .int (nI oc), .ref g5, .ref g6, .ref g7, .ref g8]))]) [0] rfl
  have hD := hD.sub (ws' := [(o0, .inr (4, [.int (nI 2), .long (lN p), .int (nI n), .long (lN vr), .int (nI ir), .long (lN od), .int (nI cc), .ref g1, .int (nI gc), .ref g2, .ref g3, .ref g4, .int (nI oc), .ref g5, .ref g6, .ref g7, .ref g8]))]) [0] (by decide) rfl
  exact W.iret (v := nI 0) hx hb hr (fun t9 ht hW => ⟨⟨nI 0, (), rfl, rfl, by rw [ht]; exact hP, va_K.moved hW.alike hK, hD⟩, hS.F ht⟩) hS.2.2 d_O_gate_72
set_option maxHeartbeats 4000000 in
set_option maxRecDepth 100000 in
theorem c_O_gateB (l : Launch) (dC : Nat → ClassId) (dI : Nat → Nat → Nat) (cI cL : ClassId) (sz : Nat) (o0 g1 g2 g3 g4 g5 g6 g7 g8 : Nat) (fl p n vr ir od cc gc oc : Nat) (kk a : Nat) (hkk : kk < 5) (ha : a < cc + gc) (hl1 : cc + gc < 2 ^ 31) (y2 : Int32) (hy : (y2 < 0 ∨ ¬ y2 < nI (cc + gc))) : Met l y_O_gate w_O_gate ({ frames := 1, cells := 0, slots := 0, locals := 21 } : Room) (va_Pc [.ref o0, .int (nI kk), .int (nI a), .int y2] (wq_W (dC, dI) classes [(o0, .inr (4, [.int (nI fl), .long (lN p), .int (nI n), .long (lN vr), .int (nI ir), .long (lN od), .int (nI cc), .ref g1, .int (nI gc), .ref g2, .ref g3, .ref g4, .int (nI oc), .ref g5, .ref g6, .ref g7, .ref g8]))] [(cI, .int), (cL, .long)] sz)) (va_Qi (fun (r : Int32) (u : Unit) => r = nI 0) (fun (u : Unit) t => wq_B (dC, dI) classes [(cI, .int), (cL, .long)] (va_A [(o0, .inr (4, [.int (nI fl), .long (lN p), .int (nI n), .long (lN vr), .int (nI ir), .long (lN od), .int (nI cc), .ref g1, .int (nI gc), .ref g2, .ref g3, .ref g4, .int (nI oc), .ref g5, .ref g6, .ref g7, .ref g8]))] sz) [(o0, .inr (4, [.int (nI 2), .long (lN p), .int (nI n), .long (lN vr), .int (nI ir), .long (lN od), .int (nI cc), .ref g1, .int (nI gc), .ref g2, .ref g3, .ref g4, .int (nI oc), .ref g5, .ref g6, .ref g7, .ref g8]))] t) (va_A [(o0, .inr (4, [.int (nI fl), .long (lN p), .int (nI n), .long (lN vr), .int (nI ir), .long (lN od), .int (nI cc), .ref g1, .int (nI gc), .ref g2, .ref g3, .ref g4, .int (nI oc), .ref g5, .ref g6, .ref g7, .ref g8]))] sz)) 0 0 (va_A [(o0, .inr (4, [.int (nI fl), .long (lN p), .int (nI n), .long (lN vr), .int (nI ir), .long (lN od), .int (nI cc), .ref g1, .int (nI gc), .ref g2, .ref g3, .ref g4, .int (nI oc), .ref g5, .ref g6, .ref g7, .ref g8]))] sz) := by
  refine Met.ofW (cc := b_O_gate) (maxL := 5) (ret := (Option.some Jvm.ClassFile.FieldType.int)) (by decide) rfl ?_
  intro pg en st mm ar bw me co s₁ B hml hv
  obtain ⟨rfl, hsz, hP, hK, hD0, hN⟩ := hv
  have hx := B.exec
  have hb := B.bytes
  have hr := B.returns
  have hlocks := B.notSynchronized
  have hts0 := atoms_spec (ws := w_O_gate) B.pre
  have hts : ∀ w ∈ gw, w.before _ st = true := fun w h => hts0 w (List.mem_cons_of_mem _ h)
  have hown : st.vm.findClass R_O = some mm.cls := findClass_of_methodNamed B.named
  subst hsz
  have hD := hD0.self (sz := st.heap.size)
  generalize hAe : va_A [(o0, .inr (4, [.int (nI fl), .long (lN p), .int (nI n), .long (lN vr), .int (nI ir), .long (lN od), .int (nI cc), .ref g1, .int (nI gc), .ref g2, .ref g3, .ref g4, .int (nI oc), .ref g5, .ref g6, .ref g7, .ref g8]))] st.heap.size = A at hD ⊢
  have hA : ∀ q : Nat, st.heap.size ≤ q → A q := fun q h => by rw [← hAe]; exact Or.inr h
  have hS : va_S A st.heap st.heap [] := va_S.rf
  have hl := lv_entry ([.ref o0, .int (nI kk), .int (nI a), .int y2]) (n := 5) (Nat.le_of_ble_eq_true rfl)
  rw [lg_entry_eq]
  generalize (lg_sl ([.ref o0, .int (nI kk), .int (nI a), .int y2]) ++ List.replicate (5 - (lg_sl ([.ref o0, .int (nI kk), .int (nI a), .int y2])).length) Slot.unset).toArray = ls at hl ⊢
  have hl : lv_has ls 5 [(0, .ref o0), (1, .int (nI kk)), (2, .int (nI a)), (3, .int y2)] := hl
  refine lv_aload_n hx hb d_O_gate_0 rfl (lv_at hl 0 rfl) ?_
  refine lv_iload_n hx hb d_O_gate_1 rfl (lv_at hl 2 rfl) ?_
  refine vp_callSi (va_Run.run (va_runV (As := [.int (nI a)]) (rest := []) ⟨hx, hb, hml, hown, hts⟩ (c_O_isLine l dC dI cI cL o0 g1 g2 g3 g4 g5 g6 g7 g8 fl p n vr ir od cc gc oc (nI a)) (cwV 1 hts (gi_V kw_673 kw_675 ks_O_isLine kw_5 gi_O_isLine) rfl rfl rfl ⟨rfl, by decide, by decide, by decide⟩ ⟨Nat.le_of_ble_eq_true rfl, Nat.le_of_ble_eq_true rfl⟩) (wq_preVR hP hK hN [0] rfl (q0 := 0) (ci := 4) rfl rfl rfl) rfl rfl hl.1 rfl (lv_room (Nat.le_of_ble_eq_true rfl)) d_O_gate_2 ⟨Nat.le_of_ble_eq_true rfl, Nat.le_of_ble_eq_true rfl⟩)) (fun r hq => ?_)
  have hq : r = 1 := by
    rcases hq with ⟨e9, -⟩ | ⟨-, e9⟩
    · exact e9
    · exact absurd e9 (in_ok ha hl1)
  subst hq
  refine lv_if_eq (tgt := 25) hx hb d_O_gate_5 (by decide) (fun hc => absurd hc (show ¬ (1 : Int32) = 0 from by decide)) (fun _ => ?_)
  refine lv_iload_n hx hb d_O_gate_8 rfl (lv_at hl 1 rfl) ?_
  refine lv_iconst (v := nI 5) hx hb d_O_gate_9 (by decide) ?_
  refine lv_icmp_eq (tgt := 21) hx hb d_O_gate_10 (by decide) (fun hc => absurd hc (fun z => nI_5 hkk z)) (fun _ => ?_)
  refine lv_aload_n hx hb d_O_gate_13 rfl (lv_at hl 0 rfl) ?_
  refine lv_iload_n hx hb d_O_gate_14 rfl (lv_at hl 3 rfl) ?_
  refine vp_callSi (va_Run.run (va_runV (As := [.int y2]) (rest := []) ⟨hx, hb, hml, hown, hts⟩ (c_O_isLine l dC dI cI cL o0 g1 g2 g3 g4 g5 g6 g7 g8 fl p n vr ir od cc gc oc y2) (cwV 1 hts (gi_V kw_673 kw_675 ks_O_isLine kw_5 gi_O_isLine) rfl rfl rfl ⟨rfl, by decide, by decide, by decide⟩ ⟨Nat.le_of_ble_eq_true rfl, Nat.le_of_ble_eq_true rfl⟩) (wq_preVR hP hK hN [0] rfl (q0 := 0) (ci := 4) rfl rfl rfl) rfl rfl hl.1 rfl (lv_room (Nat.le_of_ble_eq_true rfl)) d_O_gate_15 ⟨Nat.le_of_ble_eq_true rfl, Nat.le_of_ble_eq_true rfl⟩)) (fun r2 hq2 => ?_)
  have hq2 : r2 = 0 := by
    rcases hq2 with ⟨-, e9⟩ | ⟨e9, -⟩
    · exact absurd hy e9
    · exact e9
  subst hq2
  refine lv_if_eq (tgt := 25) hx hb d_O_gate_18 (by decide) (fun _ => ?_) (fun hc => absurd hc (fun z => z rfl))
  refine lv_iconst (v := nI 0) hx hb d_O_gate_25 (by decide) ?_
  refine lv_istore (lv' := [(4, .int (nI 0)), (0, .ref o0), (1, .int (nI kk)), (2, .int (nI a)), (3, .int y2)]) hx hb d_O_gate_26 hl (by decide) rfl (fun ls hl => ?_)
  refine lv_aload_n hx hb d_O_gate_28 rfl (lv_at hl 1 rfl) ?_
  refine lv_iload_n hx hb d_O_gate_29 rfl (lv_at hl 2 rfl) ?_
  refine lv_if_lt (tgt := 38) hx hb d_O_gate_30 (by decide) (fun hc => absurd hc (nI_nn (by omega))) (fun _ => ?_)
  refine lv_iload_n hx hb d_O_gate_33 rfl (lv_at hl 2 rfl) ?_
  refine lv_iconst (v := nI 5) hx hb d_O_gate_34 (by decide) ?_
  refine lv_icmp_le (tgt := 42) hx hb d_O_gate_35 (by decide) (fun _ => ?_) (fun hc => absurd hc (fun z => z ((nI_leI (by omega) (by decide)).mpr (by omega))))
  refine lv_iload hx hb d_O_gate_42 (lv_at hl 0 rfl) ?_
  refine lv_if_ne (tgt := 51) hx hb d_O_gate_44 (by decide) (fun hc => absurd hc (fun z => z rfl)) (fun _ => ?_)
  refine lv_iconst (v := nI 2) hx hb d_O_gate_47 (by decide) ?_
  refine lv_goto (tgt := 65) hx hb d_O_gate_48 (by decide) ?_
  refine wq_i (wr := []) (va_runV (As := [.int (nI 2)]) (rest := []) ⟨hx, hb, hml, hown, hts⟩ (c_O_refusedK l dC dI cI cL st.heap.size o0 g1 g2 g3 g4 g5 g6 g7 g8 fl p n vr ir od cc gc oc 2 (by decide) (by decide)) (cwV 1 hts (gi_V kw_588 kw_590 ks_O_refused kw_5 gi_O_refused) rfl rfl rfl ⟨rfl, by decide, by decide, by decide⟩ ⟨Nat.le_of_ble_eq_true rfl, Nat.le_of_ble_eq_true rfl⟩) (wq_preVW hP hD hK hN [0] rfl rfl (q0 := 0) (ci := 4) rfl rfl rfl) rfl rfl hl.1 rfl (lv_room (Nat.le_of_ble_eq_true rfl)) d_O_gate_65 ⟨Nat.le_of_ble_eq_true rfl, Nat.le_of_ble_eq_true rfl⟩) hP hD hS hA [0] [] rfl rfl rfl (by decide) (fun r u H locs hq hP hD hS hz => ?_)
  have hP : va_P (dC, dI) classes [(o0, .inr (4, [.int (nI 2), .long (lN p), .int (nI n), .long (lN vr), .int (nI ir), .long (lN od), .int (nI cc), .ref g1, .int (nI gc), .ref g2, .ref g3, .ref g4, .int (nI oc), .ref g5, .ref g6, .ref g7, .ref g8]))] H := hP
  have hD : va_D A [(o0, .inr (4, [.int (nI 2), .long (lN p), .int (nI n), .long (lN vr), .int (nI ir), .long (lN od), .int (nI cc), .ref g1, .int (nI gc), .ref g2, .ref g3, .ref g4, .int (nI oc), .ref g5, .ref g6, .ref g7, .ref g8]))] := hD
  subst hq
  refine lv_if_eq (tgt := 73) hx hb d_O_gate_68 (by decide) (fun hc => absurd hc (show ¬ (1 : Int32) = 0 from by decide)) (fun _ => ?_)
  refine lv_iconst (v := nI 0) hx hb d_O_gate_71 (by decide) ?_
  have hP := hP.sub (ws' := [(o0, .inr (4, [.int (nI 2), .long (lN p), .int (nI n), .long (lN vr), .int (nI ir), .long (lN od), .int (nI cc), .ref g1, .int (nI gc), .ref g2, .ref g3, .ref g4, .int (nI oc), .ref g5, .ref g6, .ref g7, .ref g8]))]) [0] rfl
  have hD := hD.sub (ws' := [(o0, .inr (4, [.int (nI 2), .long (lN p), .int (nI n), .long (lN vr), .int (nI ir), .long (lN od), .int (nI cc), .ref g1, .int (nI gc), .ref g2, .ref g3, .ref g4, .int (nI oc), .ref g5, .ref g6, .ref g7, .ref g8]))]) [0] (by decide) rfl
  exact W.iret (v := nI 0) hx hb hr (fun t9 ht hW => ⟨⟨nI 0, (), rfl, rfl, by rw [ht]; exact hP, va_K.moved hW.alike hK, hD⟩, hS.F ht⟩) hS.2.2 d_O_gate_72
set_option maxHeartbeats 4000000 in
set_option maxRecDepth 100000 in
theorem c_O_gateF5 (l : Launch) (dC : Nat → ClassId) (dI : Nat → Nat → Nat) (cI cL : ClassId) (sz : Nat) (o0 g1 g2 g3 g4 g5 g6 g7 g8 : Nat) (fl p n vr ir od cc gc oc : Nat) (a : Nat) (y : Int32) (ha : a < cc + gc) (hl1 : cc + gc < 2 ^ 31) (hgc : gc = 24) : Met l y_O_gate w_O_gate ({ frames := 1, cells := 0, slots := 0, locals := 21 } : Room) (va_Pc [.ref o0, .int (nI 5), .int (nI a), .int y] (wq_W (dC, dI) classes [(o0, .inr (4, [.int (nI fl), .long (lN p), .int (nI n), .long (lN vr), .int (nI ir), .long (lN od), .int (nI cc), .ref g1, .int (nI gc), .ref g2, .ref g3, .ref g4, .int (nI oc), .ref g5, .ref g6, .ref g7, .ref g8]))] [(cI, .int), (cL, .long)] sz)) (va_Qi (fun (r : Int32) (u : Unit) => r = nI 0) (fun (u : Unit) t => wq_B (dC, dI) classes [(cI, .int), (cL, .long)] (va_A [(o0, .inr (4, [.int (nI fl), .long (lN p), .int (nI n), .long (lN vr), .int (nI ir), .long (lN od), .int (nI cc), .ref g1, .int (nI gc), .ref g2, .ref g3, .ref g4, .int (nI oc), .ref g5, .ref g6, .ref g7, .ref g8]))] sz) [(o0, .inr (4, [.int (nI 3), .long (lN p), .int (nI n), .long (lN vr), .int (nI ir), .long (lN od), .int (nI cc), .ref g1, .int (nI gc), .ref g2, .ref g3, .ref g4, .int (nI oc), .ref g5, .ref g6, .ref g7, .ref g8]))] t) (va_A [(o0, .inr (4, [.int (nI fl), .long (lN p), .int (nI n), .long (lN vr), .int (nI ir), .long (lN od), .int (nI cc), .ref g1, .int (nI gc), .ref g2, .ref g3, .ref g4, .int (nI oc), .ref g5, .ref g6, .ref g7, .ref g8]))] sz)) 0 0 (va_A [(o0, .inr (4, [.int (nI fl), .long (lN p), .int (nI n), .long (lN vr), .int (nI ir), .long (lN od), .int (nI cc), .ref g1, .int (nI gc), .ref g2, .ref g3, .ref g4, .int (nI oc), .ref g5, .ref g6, .ref g7, .ref g8]))] sz) := by
  refine Met.ofW (cc := b_O_gate) (maxL := 5) (ret := (Option.some Jvm.ClassFile.FieldType.int)) (by decide) rfl ?_
  intro pg en st mm ar bw me co s₁ B hml hv
  obtain ⟨rfl, hsz, hP, hK, hD0, hN⟩ := hv
  have hx := B.exec
  have hb := B.bytes
  have hr := B.returns
  have hlocks := B.notSynchronized
  have hts0 := atoms_spec (ws := w_O_gate) B.pre
  have hts : ∀ w ∈ gw, w.before _ st = true := fun w h => hts0 w (List.mem_cons_of_mem _ h)
  have hown : st.vm.findClass R_O = some mm.cls := findClass_of_methodNamed B.named
  subst hsz
  have hD := hD0.self (sz := st.heap.size)
  generalize hAe : va_A [(o0, .inr (4, [.int (nI fl), .long (lN p), .int (nI n), .long (lN vr), .int (nI ir), .long (lN od), .int (nI cc), .ref g1, .int (nI gc), .ref g2, .ref g3, .ref g4, .int (nI oc), .ref g5, .ref g6, .ref g7, .ref g8]))] st.heap.size = A at hD ⊢
  have hA : ∀ q : Nat, st.heap.size ≤ q → A q := fun q h => by rw [← hAe]; exact Or.inr h
  have hS : va_S A st.heap st.heap [] := va_S.rf
  have hl := lv_entry ([.ref o0, .int (nI 5), .int (nI a), .int y]) (n := 5) (Nat.le_of_ble_eq_true rfl)
  rw [lg_entry_eq]
  generalize (lg_sl ([.ref o0, .int (nI 5), .int (nI a), .int y]) ++ List.replicate (5 - (lg_sl ([.ref o0, .int (nI 5), .int (nI a), .int y])).length) Slot.unset).toArray = ls at hl ⊢
  have hl : lv_has ls 5 [(0, .ref o0), (1, .int (nI 5)), (2, .int (nI a)), (3, .int y)] := hl
  refine lv_aload_n hx hb d_O_gate_0 rfl (lv_at hl 0 rfl) ?_
  refine lv_iload_n hx hb d_O_gate_1 rfl (lv_at hl 2 rfl) ?_
  refine vp_callSi (va_Run.run (va_runV (As := [.int (nI a)]) (rest := []) ⟨hx, hb, hml, hown, hts⟩ (c_O_isLine l dC dI cI cL o0 g1 g2 g3 g4 g5 g6 g7 g8 fl p n vr ir od cc gc oc (nI a)) (cwV 1 hts (gi_V kw_673 kw_675 ks_O_isLine kw_5 gi_O_isLine) rfl rfl rfl ⟨rfl, by decide, by decide, by decide⟩ ⟨Nat.le_of_ble_eq_true rfl, Nat.le_of_ble_eq_true rfl⟩) (wq_preVR hP hK hN [0] rfl (q0 := 0) (ci := 4) rfl rfl rfl) rfl rfl hl.1 rfl (lv_room (Nat.le_of_ble_eq_true rfl)) d_O_gate_2 ⟨Nat.le_of_ble_eq_true rfl, Nat.le_of_ble_eq_true rfl⟩)) (fun r hq => ?_)
  have hq : r = 1 := by
    rcases hq with ⟨e9, -⟩ | ⟨-, e9⟩
    · exact e9
    · exact absurd e9 (in_ok ha hl1)
  subst hq
  refine lv_if_eq (tgt := 25) hx hb d_O_gate_5 (by decide) (fun hc => absurd hc (show ¬ (1 : Int32) = 0 from by decide)) (fun _ => ?_)
  refine lv_iload_n hx hb d_O_gate_8 rfl (lv_at hl 1 rfl) ?_
  refine lv_iconst (v := nI 5) hx hb d_O_gate_9 (by decide) ?_
  refine lv_icmp_eq (tgt := 21) hx hb d_O_gate_10 (by decide) (fun _ => ?_) (fun hc => absurd hc (fun z => z rfl))
  refine lv_iconst (v := nI 1) hx hb d_O_gate_21 (by decide) ?_
  refine lv_goto (tgt := 26) hx hb d_O_gate_22 (by decide) ?_
  refine lv_istore (lv' := [(4, .int (nI 1)), (0, .ref o0), (1, .int (nI 5)), (2, .int (nI a)), (3, .int y)]) hx hb d_O_gate_26 hl (by decide) rfl (fun ls hl => ?_)
  refine lv_aload_n hx hb d_O_gate_28 rfl (lv_at hl 1 rfl) ?_
  refine lv_iload_n hx hb d_O_gate_29 rfl (lv_at hl 2 rfl) ?_
  refine lv_if_lt (tgt := 38) hx hb d_O_gate_30 (by decide) (fun hc => absurd hc (nI_nn (by omega))) (fun _ => ?_)
  refine lv_iload_n hx hb d_O_gate_33 rfl (lv_at hl 2 rfl) ?_
  refine lv_iconst (v := nI 5) hx hb d_O_gate_34 (by decide) ?_
  refine lv_icmp_le (tgt := 42) hx hb d_O_gate_35 (by decide) (fun _ => ?_) (fun hc => absurd hc (fun z => z ((nI_leI (by omega) (by decide)).mpr (by omega))))
  refine lv_iload hx hb d_O_gate_42 (lv_at hl 0 rfl) ?_
  refine lv_if_ne (tgt := 51) hx hb d_O_gate_44 (by decide) (fun _ => ?_) (fun hc => absurd hc (show ¬ nI 1 = 0 from by decide))
  refine lv_aload_n hx hb d_O_gate_51 rfl (lv_at hl 1 rfl) ?_
  refine va_get (D := (dC, dI)) (ci := 4) (v := .int (nI gc)) (C := R_O) (T := F_O) (N := 17) hx hb hts in_O hown hK hP 0 rfl rfl 8 (by decide) (hts _ kw_536) (fun _ h9 => h9) rfl d_O_gate_52 ?_
  refine lv_bipush (v := nI 24) hx hb d_O_gate_55 (by decide) ?_
  refine lv_icmp_ne (tgt := 64) hx hb d_O_gate_57 (by decide) (fun hc => absurd hc (fun z => z (by rw [hgc]))) (fun _ => ?_)
  refine lv_iconst (v := nI 3) hx hb d_O_gate_60 (by decide) ?_
  refine lv_goto (tgt := 65) hx hb d_O_gate_61 (by decide) ?_
  refine wq_i (wr := []) (va_runV (As := [.int (nI 3)]) (rest := []) ⟨hx, hb, hml, hown, hts⟩ (c_O_refusedK l dC dI cI cL st.heap.size o0 g1 g2 g3 g4 g5 g6 g7 g8 fl p n vr ir od cc gc oc 3 (by decide) (by decide)) (cwV 1 hts (gi_V kw_588 kw_590 ks_O_refused kw_5 gi_O_refused) rfl rfl rfl ⟨rfl, by decide, by decide, by decide⟩ ⟨Nat.le_of_ble_eq_true rfl, Nat.le_of_ble_eq_true rfl⟩) (wq_preVW hP hD hK hN [0] rfl rfl (q0 := 0) (ci := 4) rfl rfl rfl) rfl rfl hl.1 rfl (lv_room (Nat.le_of_ble_eq_true rfl)) d_O_gate_65 ⟨Nat.le_of_ble_eq_true rfl, Nat.le_of_ble_eq_true rfl⟩) hP hD hS hA [0] [] rfl rfl rfl (by decide) (fun r u H locs hq hP hD hS hz => ?_)
  have hP : va_P (dC, dI) classes [(o0, .inr (4, [.int (nI 3), .long (lN p), .int (nI n), .long (lN vr), .int (nI ir), .long (lN od), .int (nI cc), .ref g1, .int (nI gc), .ref g2, .ref g3, .ref g4, .int (nI oc), .ref g5, .ref g6, .ref g7, .ref g8]))] H := hP
  have hD : va_D A [(o0, .inr (4, [.int (nI 3), .long (lN p), .int (nI n), .long (lN vr), .int (nI ir), .long (lN od), .int (nI cc), .ref g1, .int (nI gc), .ref g2, .ref g3, .ref g4, .int (nI oc), .ref g5, .ref g6, .ref g7, .ref g8]))] := hD
  subst hq
  refine lv_if_eq (tgt := 73) hx hb d_O_gate_68 (by decide) (fun hc => absurd hc (show ¬ (1 : Int32) = 0 from by decide)) (fun _ => ?_)
  refine lv_iconst (v := nI 0) hx hb d_O_gate_71 (by decide) ?_
  have hP := hP.sub (ws' := [(o0, .inr (4, [.int (nI 3), .long (lN p), .int (nI n), .long (lN vr), .int (nI ir), .long (lN od), .int (nI cc), .ref g1, .int (nI gc), .ref g2, .ref g3, .ref g4, .int (nI oc), .ref g5, .ref g6, .ref g7, .ref g8]))]) [0] rfl
  have hD := hD.sub (ws' := [(o0, .inr (4, [.int (nI 3), .long (lN p), .int (nI n), .long (lN vr), .int (nI ir), .long (lN od), .int (nI cc), .ref g1, .int (nI gc), .ref g2, .ref g3, .ref g4, .int (nI oc), .ref g5, .ref g6, .ref g7, .ref g8]))]) [0] (by decide) rfl
  exact W.iret (v := nI 0) hx hb hr (fun t9 ht hW => ⟨⟨nI 0, (), rfl, rfl, by rw [ht]; exact hP, va_K.moved hW.alike hK, hD⟩, hS.F ht⟩) hS.2.2 d_O_gate_72
set_option maxHeartbeats 4000000 in
set_option maxRecDepth 100000 in
theorem c_O_gateFK (l : Launch) (dC : Nat → ClassId) (dI : Nat → Nat → Nat) (cI cL : ClassId) (sz : Nat) (o0 g1 g2 g3 g4 g5 g6 g7 g8 : Nat) (fl p n vr ir od cc gc oc : Nat) (kk a b : Nat) (hkk : kk < 5) (ha : a < cc + gc) (hb2 : b < cc + gc) (hl1 : cc + gc < 2 ^ 31) (hgc : gc = 24) : Met l y_O_gate w_O_gate ({ frames := 1, cells := 0, slots := 0, locals := 21 } : Room) (va_Pc [.ref o0, .int (nI kk), .int (nI a), .int (nI b)] (wq_W (dC, dI) classes [(o0, .inr (4, [.int (nI fl), .long (lN p), .int (nI n), .long (lN vr), .int (nI ir), .long (lN od), .int (nI cc), .ref g1, .int (nI gc), .ref g2, .ref g3, .ref g4, .int (nI oc), .ref g5, .ref g6, .ref g7, .ref g8]))] [(cI, .int), (cL, .long)] sz)) (va_Qi (fun (r : Int32) (u : Unit) => r = nI 0) (fun (u : Unit) t => wq_B (dC, dI) classes [(cI, .int), (cL, .long)] (va_A [(o0, .inr (4, [.int (nI fl), .long (lN p), .int (nI n), .long (lN vr), .int (nI ir), .long (lN od), .int (nI cc), .ref g1, .int (nI gc), .ref g2, .ref g3, .ref g4, .int (nI oc), .ref g5, .ref g6, .ref g7, .ref g8]))] sz) [(o0, .inr (4, [.int (nI 3), .long (lN p), .int (nI n), .long (lN vr), .int (nI ir), .long (lN od), .int (nI cc), .ref g1, .int (nI gc), .ref g2, .ref g3, .ref g4, .int (nI oc), .ref g5, .ref g6, .ref g7, .ref g8]))] t) (va_A [(o0, .inr (4, [.int (nI fl), .long (lN p), .int (nI n), .long (lN vr), .int (nI ir), .long (lN od), .int (nI cc), .ref g1, .int (nI gc), .ref g2, .ref g3, .ref g4, .int (nI oc), .ref g5, .ref g6, .ref g7, .ref g8]))] sz)) 0 0 (va_A [(o0, .inr (4, [.int (nI fl), .long (lN p), .int (nI n), .long (lN vr), .int (nI ir), .long (lN od), .int (nI cc), .ref g1, .int (nI gc), .ref g2, .ref g3, .ref g4, .int (nI oc), .ref g5, .ref g6, .ref g7, .ref g8]))] sz) := by
  refine Met.ofW (cc := b_O_gate) (maxL := 5) (ret := (Option.some Jvm.ClassFile.FieldType.int)) (by decide) rfl ?_
  intro pg en st mm ar bw me co s₁ B hml hv
  obtain ⟨rfl, hsz, hP, hK, hD0, hN⟩ := hv
  have hx := B.exec
  have hb := B.bytes
  have hr := B.returns
  have hlocks := B.notSynchronized
  have hts0 := atoms_spec (ws := w_O_gate) B.pre
  have hts : ∀ w ∈ gw, w.before _ st = true := fun w h => hts0 w (List.mem_cons_of_mem _ h)
  have hown : st.vm.findClass R_O = some mm.cls := findClass_of_methodNamed B.named
  subst hsz
  have hD := hD0.self (sz := st.heap.size)
  generalize hAe : va_A [(o0, .inr (4, [.int (nI fl), .long (lN p), .int (nI n), .long (lN vr), .int (nI ir), .long (lN od), .int (nI cc), .ref g1, .int (nI gc), .ref g2, .ref g3, .ref g4, .int (nI oc), .ref g5, .ref g6, .ref g7, .ref g8]))] st.heap.size = A at hD ⊢
  have hA : ∀ q : Nat, st.heap.size ≤ q → A q := fun q h => by rw [← hAe]; exact Or.inr h
  have hS : va_S A st.heap st.heap [] := va_S.rf
  have hl := lv_entry ([.ref o0, .int (nI kk), .int (nI a), .int (nI b)]) (n := 5) (Nat.le_of_ble_eq_true rfl)
  rw [lg_entry_eq]
  generalize (lg_sl ([.ref o0, .int (nI kk), .int (nI a), .int (nI b)]) ++ List.replicate (5 - (lg_sl ([.ref o0, .int (nI kk), .int (nI a), .int (nI b)])).length) Slot.unset).toArray = ls at hl ⊢
  have hl : lv_has ls 5 [(0, .ref o0), (1, .int (nI kk)), (2, .int (nI a)), (3, .int (nI b))] := hl
  refine lv_aload_n hx hb d_O_gate_0 rfl (lv_at hl 0 rfl) ?_
  refine lv_iload_n hx hb d_O_gate_1 rfl (lv_at hl 2 rfl) ?_
  refine vp_callSi (va_Run.run (va_runV (As := [.int (nI a)]) (rest := []) ⟨hx, hb, hml, hown, hts⟩ (c_O_isLine l dC dI cI cL o0 g1 g2 g3 g4 g5 g6 g7 g8 fl p n vr ir od cc gc oc (nI a)) (cwV 1 hts (gi_V kw_673 kw_675 ks_O_isLine kw_5 gi_O_isLine) rfl rfl rfl ⟨rfl, by decide, by decide, by decide⟩ ⟨Nat.le_of_ble_eq_true rfl, Nat.le_of_ble_eq_true rfl⟩) (wq_preVR hP hK hN [0] rfl (q0 := 0) (ci := 4) rfl rfl rfl) rfl rfl hl.1 rfl (lv_room (Nat.le_of_ble_eq_true rfl)) d_O_gate_2 ⟨Nat.le_of_ble_eq_true rfl, Nat.le_of_ble_eq_true rfl⟩)) (fun r hq => ?_)
  have hq : r = 1 := by
    rcases hq with ⟨e9, -⟩ | ⟨-, e9⟩
    · exact e9
    · exact absurd e9 (in_ok ha hl1)
  subst hq
  refine lv_if_eq (tgt := 25) hx hb d_O_gate_5 (by decide) (fun hc => absurd hc (show ¬ (1 : Int32) = 0 from by decide)) (fun _ => ?_)
  refine lv_iload_n hx hb d_O_gate_8 rfl (lv_at hl 1 rfl) ?_
  refine lv_iconst (v := nI 5) hx hb d_O_gate_9 (by decide) ?_
  refine lv_icmp_eq (tgt := 21) hx hb d_O_gate_10 (by decide) (fun hc => absurd hc (fun z => nI_5 hkk z)) (fun _ => ?_)
  refine lv_aload_n hx hb d_O_gate_13 rfl (lv_at hl 0 rfl) ?_
  refine lv_iload_n hx hb d_O_gate_14 rfl (lv_at hl 3 rfl) ?_
  refine vp_callSi (va_Run.run (va_runV (As := [.int (nI b)]) (rest := []) ⟨hx, hb, hml, hown, hts⟩ (c_O_isLine l dC dI cI cL o0 g1 g2 g3 g4 g5 g6 g7 g8 fl p n vr ir od cc gc oc (nI b)) (cwV 1 hts (gi_V kw_673 kw_675 ks_O_isLine kw_5 gi_O_isLine) rfl rfl rfl ⟨rfl, by decide, by decide, by decide⟩ ⟨Nat.le_of_ble_eq_true rfl, Nat.le_of_ble_eq_true rfl⟩) (wq_preVR hP hK hN [0] rfl (q0 := 0) (ci := 4) rfl rfl rfl) rfl rfl hl.1 rfl (lv_room (Nat.le_of_ble_eq_true rfl)) d_O_gate_15 ⟨Nat.le_of_ble_eq_true rfl, Nat.le_of_ble_eq_true rfl⟩)) (fun r2 hq2 => ?_)
  have hq2 : r2 = 1 := by
    rcases hq2 with ⟨e9, -⟩ | ⟨-, e9⟩
    · exact e9
    · exact absurd e9 (in_ok hb2 hl1)
  subst hq2
  refine lv_if_eq (tgt := 25) hx hb d_O_gate_18 (by decide) (fun hc => absurd hc (show ¬ (1 : Int32) = 0 from by decide)) (fun _ => ?_)
  refine lv_iconst (v := nI 1) hx hb d_O_gate_21 (by decide) ?_
  refine lv_goto (tgt := 26) hx hb d_O_gate_22 (by decide) ?_
  refine lv_istore (lv' := [(4, .int (nI 1)), (0, .ref o0), (1, .int (nI kk)), (2, .int (nI a)), (3, .int (nI b))]) hx hb d_O_gate_26 hl (by decide) rfl (fun ls hl => ?_)
  refine lv_aload_n hx hb d_O_gate_28 rfl (lv_at hl 1 rfl) ?_
  refine lv_iload_n hx hb d_O_gate_29 rfl (lv_at hl 2 rfl) ?_
  refine lv_if_lt (tgt := 38) hx hb d_O_gate_30 (by decide) (fun hc => absurd hc (nI_nn (by omega))) (fun _ => ?_)
  refine lv_iload_n hx hb d_O_gate_33 rfl (lv_at hl 2 rfl) ?_
  refine lv_iconst (v := nI 5) hx hb d_O_gate_34 (by decide) ?_
  refine lv_icmp_le (tgt := 42) hx hb d_O_gate_35 (by decide) (fun _ => ?_) (fun hc => absurd hc (fun z => z ((nI_leI (by omega) (by decide)).mpr (by omega))))
  refine lv_iload hx hb d_O_gate_42 (lv_at hl 0 rfl) ?_
  refine lv_if_ne (tgt := 51) hx hb d_O_gate_44 (by decide) (fun _ => ?_) (fun hc => absurd hc (show ¬ nI 1 = 0 from by decide))
  refine lv_aload_n hx hb d_O_gate_51 rfl (lv_at hl 1 rfl) ?_
  refine va_get (D := (dC, dI)) (ci := 4) (v := .int (nI gc)) (C := R_O) (T := F_O) (N := 17) hx hb hts in_O hown hK hP 0 rfl rfl 8 (by decide) (hts _ kw_536) (fun _ h9 => h9) rfl d_O_gate_52 ?_
  refine lv_bipush (v := nI 24) hx hb d_O_gate_55 (by decide) ?_
  refine lv_icmp_ne (tgt := 64) hx hb d_O_gate_57 (by decide) (fun hc => absurd hc (fun z => z (by rw [hgc]))) (fun _ => ?_)
  refine lv_iconst (v := nI 3) hx hb d_O_gate_60 (by decide) ?_
  refine lv_goto (tgt := 65) hx hb d_O_gate_61 (by decide) ?_
  refine wq_i (wr := []) (va_runV (As := [.int (nI 3)]) (rest := []) ⟨hx, hb, hml, hown, hts⟩ (c_O_refusedK l dC dI cI cL st.heap.size o0 g1 g2 g3 g4 g5 g6 g7 g8 fl p n vr ir od cc gc oc 3 (by decide) (by decide)) (cwV 1 hts (gi_V kw_588 kw_590 ks_O_refused kw_5 gi_O_refused) rfl rfl rfl ⟨rfl, by decide, by decide, by decide⟩ ⟨Nat.le_of_ble_eq_true rfl, Nat.le_of_ble_eq_true rfl⟩) (wq_preVW hP hD hK hN [0] rfl rfl (q0 := 0) (ci := 4) rfl rfl rfl) rfl rfl hl.1 rfl (lv_room (Nat.le_of_ble_eq_true rfl)) d_O_gate_65 ⟨Nat.le_of_ble_eq_true rfl, Nat.le_of_ble_eq_true rfl⟩) hP hD hS hA [0] [] rfl rfl rfl (by decide) (fun r u H locs hq hP hD hS hz => ?_)
  have hP : va_P (dC, dI) classes [(o0, .inr (4, [.int (nI 3), .long (lN p), .int (nI n), .long (lN vr), .int (nI ir), .long (lN od), .int (nI cc), .ref g1, .int (nI gc), .ref g2, .ref g3, .ref g4, .int (nI oc), .ref g5, .ref g6, .ref g7, .ref g8]))] H := hP
  have hD : va_D A [(o0, .inr (4, [.int (nI 3), .long (lN p), .int (nI n), .long (lN vr), .int (nI ir), .long (lN od), .int (nI cc), .ref g1, .int (nI gc), .ref g2, .ref g3, .ref g4, .int (nI oc), .ref g5, .ref g6, .ref g7, .ref g8]))] := hD
  subst hq
  refine lv_if_eq (tgt := 73) hx hb d_O_gate_68 (by decide) (fun hc => absurd hc (show ¬ (1 : Int32) = 0 from by decide)) (fun _ => ?_)
  refine lv_iconst (v := nI 0) hx hb d_O_gate_71 (by decide) ?_
  have hP := hP.sub (ws' := [(o0, .inr (4, [.int (nI 3), .long (lN p), .int (nI n), .long (lN vr), .int (nI ir), .long (lN od), .int (nI cc), .ref g1, .int (nI gc), .ref g2, .ref g3, .ref g4, .int (nI oc), .ref g5, .ref g6, .ref g7, .ref g8]))]) [0] rfl
  have hD := hD.sub (ws' := [(o0, .inr (4, [.int (nI 3), .long (lN p), .int (nI n), .long (lN vr), .int (nI ir), .long (lN od), .int (nI cc), .ref g1, .int (nI gc), .ref g2, .ref g3, .ref g4, .int (nI oc), .ref g5, .ref g6, .ref g7, .ref g8]))]) [0] (by decide) rfl
  exact W.iret (v := nI 0) hx hb hr (fun t9 ht hW => ⟨⟨nI 0, (), rfl, rfl, by rw [ht]; exact hP, va_K.moved hW.alike hK, hD⟩, hS.F ht⟩) hS.2.2 d_O_gate_72
set_option maxHeartbeats 4000000 in
set_option maxRecDepth 100000 in
theorem c_O_answerToN (l : Launch) (dC : Nat → ClassId) (dI : Nat → Nat → Nat) (cI cL : ClassId) (sz : Nat) (o0 g1 g2 g3 g4 g5 g6 g7 g8 : Nat) (fl p n vr ir od cc gc oc : Nat) (kd lf rg ol : Nat → Nat) (hk : ck cc gc oc kd lf rg ol) (ln : Nat → Nat) (pt : Nat) (hpt : pt < 2 ^ 32) : Met l y_O_answerTo w_O_answerTo ({ frames := 1, cells := 0, slots := 0, locals := 22 } : Room) (va_Pc [.ref o0, .int (nI pt), .int (-1)] (wq_W (dC, dI) classes [(o0, .inr (4, [.int (nI fl), .long (lN p), .int (nI n), .long (lN vr), .int (nI ir), .long (lN od), .int (nI cc), .ref g1, .int (nI gc), .ref g2, .ref g3, .ref g4, .int (nI oc), .ref g5, .ref g6, .ref g7, .ref g8])), (g2, .inl (cI, 24, .inl (fun c => nI (kd c)))), (g3, .inl (cI, 24, .inl (fun c => nI (lf c)))), (g4, .inl (cI, 24, .inl (fun c => nI (rg c)))), (g5, .inl (cI, 16, .inl (fun c => nI (ol c)))), (g6, .inl (cI, 32, .inl (fun c => nI (ln c))))] [(cI, .int), (cL, .long)] sz)) (va_Qi (fun (r : Int32) (u : Nat → Nat) => r = nI (ci_a ol (ci_t cc kd lf rg pt none (cc + gc)) oc)) (fun (u : Nat → Nat) t => wq_B (dC, dI) classes [(cI, .int), (cL, .long)] (va_A [(o0, .inr (4, [.int (nI fl), .long (lN p), .int (nI n), .long (lN vr), .int (nI ir), .long (lN od), .int (nI cc), .ref g1, .int (nI gc), .ref g2, .ref g3, .ref g4, .int (nI oc), .ref g5, .ref g6, .ref g7, .ref g8])), (g2, .inl (cI, 24, .inl (fun c => nI (kd c)))), (g3, .inl (cI, 24, .inl (fun c => nI (lf c)))), (g4, .inl (cI, 24, .inl (fun c => nI (rg c)))), (g5, .inl (cI, 16, .inl (fun c => nI (ol c)))), (g6, .inl (cI, 32, .inl (fun c => nI (ln c))))] sz) [(o0, .inr (4, [.int (nI fl), .long (lN p), .int (nI n), .long (lN vr), .int (nI ir), .long (lN od), .int (nI cc), .ref g1, .int (nI gc), .ref g2, .ref g3, .ref g4, .int (nI oc), .ref g5, .ref g6, .ref g7, .ref g8])), (g2, .inl (cI, 24, .inl (fun c => nI (kd c)))), (g3, .inl (cI, 24, .inl (fun c => nI (lf c)))), (g4, .inl (cI, 24, .inl (fun c => nI (rg c)))), (g5, .inl (cI, 16, .inl (fun c => nI (ol c)))), (g6, .inl (cI, 32, .inl (fun c => nI (u c))))] t) (va_A [(o0, .inr (4, [.int (nI fl), .long (lN p), .int (nI n), .long (lN vr), .int (nI ir), .long (lN od), .int (nI cc), .ref g1, .int (nI gc), .ref g2, .ref g3, .ref g4, .int (nI oc), .ref g5, .ref g6, .ref g7, .ref g8])), (g2, .inl (cI, 24, .inl (fun c => nI (kd c)))), (g3, .inl (cI, 24, .inl (fun c => nI (lf c)))), (g4, .inl (cI, 24, .inl (fun c => nI (rg c)))), (g5, .inl (cI, 16, .inl (fun c => nI (ol c)))), (g6, .inl (cI, 32, .inl (fun c => nI (ln c))))] sz)) 0 0 (va_A [(o0, .inr (4, [.int (nI fl), .long (lN p), .int (nI n), .long (lN vr), .int (nI ir), .long (lN od), .int (nI cc), .ref g1, .int (nI gc), .ref g2, .ref g3, .ref g4, .int (nI oc), .ref g5, .ref g6, .ref g7, .ref g8])), (g2, .inl (cI, 24, .inl (fun c => nI (kd c)))), (g3, .inl (cI, 24, .inl (fun c => nI (lf c)))), (g4, .inl (cI, 24, .inl (fun c => nI (rg c)))), (g5, .inl (cI, 16, .inl (fun c => nI (ol c)))), (g6, .inl (cI, 32, .inl (fun c => nI (ln c))))] sz) := by
  refine Met.ofW (cc := b_O_answerTo) (maxL := 5) (ret := (Option.some Jvm.ClassFile.FieldType.int)) (by decide) rfl ?_
  intro pg en st mm ar bw me co s₁ B hml hv
  obtain ⟨rfl, hsz, hP, hK, hD0, hN⟩ := hv
  have hx := B.exec
  have hb := B.bytes
  have hr := B.returns
  have hlocks := B.notSynchronized
  have hts0 := atoms_spec (ws := w_O_answerTo) B.pre
  have hts : ∀ w ∈ gw, w.before _ st = true := fun w h => hts0 w (List.mem_cons_of_mem _ h)
  have hown : st.vm.findClass R_O = some mm.cls := findClass_of_methodNamed B.named
  subst hsz
  have hD := hD0.self (sz := st.heap.size)
  generalize hAe : va_A [(o0, .inr (4, [.int (nI fl), .long (lN p), .int (nI n), .long (lN vr), .int (nI ir), .long (lN od), .int (nI cc), .ref g1, .int (nI gc), .ref g2, .ref g3, .ref g4, .int (nI oc), .ref g5, .ref g6, .ref g7, .ref g8])), (g2, .inl (cI, 24, .inl (fun c => nI (kd c)))), (g3, .inl (cI, 24, .inl (fun c => nI (lf c)))), (g4, .inl (cI, 24, .inl (fun c => nI (rg c)))), (g5, .inl (cI, 16, .inl (fun c => nI (ol c)))), (g6, .inl (cI, 32, .inl (fun c => nI (ln c))))] st.heap.size = A at hD ⊢
  have hA : ∀ q : Nat, st.heap.size ≤ q → A q := fun q h => by rw [← hAe]; exact Or.inr h
  have hS : va_S A st.heap st.heap [] := va_S.rf
  have hl := lv_entry ([.ref o0, .int (nI pt), .int (-1)]) (n := 5) (Nat.le_of_ble_eq_true rfl)
  rw [lg_entry_eq]
  generalize (lg_sl ([.ref o0, .int (nI pt), .int (-1)]) ++ List.replicate (5 - (lg_sl ([.ref o0, .int (nI pt), .int (-1)])).length) Slot.unset).toArray = ls at hl ⊢
  have hl : lv_has ls 5 [(0, .ref o0), (1, .int (nI pt)), (2, .int (-1))] := hl
  have h1 := hk.1
  have h2 := hk.2.1
  have h3 := hk.2.2.1
  have outs : ∀ (j i : Nat) (u : Nat → Nat), j + i = oc → lt_I cc kd lf rg pt none (cc + gc) u → ∀ (H : Heap) (locs : List Loc), va_P (dC, dI) classes [(o0, .inr (4, [.int (nI fl), .long (lN p), .int (nI n), .long (lN vr), .int (nI ir), .long (lN od), .int (nI cc), .ref g1, .int (nI gc), .ref g2, .ref g3, .ref g4, .int (nI oc), .ref g5, .ref g6, .ref g7, .ref g8])), (g2, .inl (cI, 24, .inl (fun c => nI (kd c)))), (g3, .inl (cI, 24, .inl (fun c => nI (lf c)))), (g4, .inl (cI, 24, .inl (fun c => nI (rg c)))), (g5, .inl (cI, 16, .inl (fun c => nI (ol c)))), (g6, .inl (cI, 32, .inl (fun c => nI (u c))))] H → va_D A [(o0, .inr (4, [.int (nI fl), .long (lN p), .int (nI n), .long (lN vr), .int (nI ir), .long (lN od), .int (nI cc), .ref g1, .int (nI gc), .ref g2, .ref g3, .ref g4, .int (nI oc), .ref g5, .ref g6, .ref g7, .ref g8])), (g2, .inl (cI, 24, .inl (fun c => nI (kd c)))), (g3, .inl (cI, 24, .inl (fun c => nI (lf c)))), (g4, .inl (cI, 24, .inl (fun c => nI (rg c)))), (g5, .inl (cI, 16, .inl (fun c => nI (ol c)))), (g6, .inl (cI, 32, .inl (fun c => nI (u c))))] → va_S A st.heap H locs → ∀ (ls : Array Slot), lv_has ls 5 [(0, .ref o0), (3, .int (nI (ci_a ol (ci_t cc kd lf rg pt none (cc + gc)) i))), (4, .int (nI i))] → W pg l en (headSpec w_O_answerTo ({ frames := 1, cells := 0, slots := 0, locals := 22 } : Room)).room st mm ([.ref o0, .int (nI pt), .int (-1)] : List Value).toArray bw me co H locs 0 0 (MQ bw (va_Qi (fun (r : Int32) (u : Nat → Nat) => r = nI (ci_a ol (ci_t cc kd lf rg pt none (cc + gc)) oc)) (fun (u : Nat → Nat) t => wq_B (dC, dI) classes [(cI, .int), (cL, .long)] A [(o0, .inr (4, [.int (nI fl), .long (lN p), .int (nI n), .long (lN vr), .int (nI ir), .long (lN od), .int (nI cc), .ref g1, .int (nI gc), .ref g2, .ref g3, .ref g4, .int (nI oc), .ref g5, .ref g6, .ref g7, .ref g8])), (g2, .inl (cI, 24, .inl (fun c => nI (kd c)))), (g3, .inl (cI, 24, .inl (fun c => nI (lf c)))), (g4, .inl (cI, 24, .inl (fun c => nI (rg c)))), (g5, .inl (cI, 16, .inl (fun c => nI (ol c)))), (g6, .inl (cI, 32, .inl (fun c => nI (u c))))] t) A) ([.ref o0, .int (nI pt), .int (-1)] : List Value).toArray st 0 0 A) (F0 mm 116 ls []) := by
    intro j
    induction j with
    | zero =>
      intro i u hj hI H locs hP hD hS ls hl
      refine lv_iload hx hb d_O_answerTo_116 (lv_at hl 2 rfl) ?_
      refine lv_aload_n hx hb d_O_answerTo_118 rfl (lv_at hl 0 rfl) ?_
      refine va_get (D := (dC, dI)) (ci := 4) (v := .int (nI oc)) (C := R_O) (T := F_O) (N := 17) hx hb hts in_O hown hK hP 0 rfl rfl 12 (by decide) (hts _ kw_540) (fun _ h9 => h9) rfl d_O_answerTo_119 ?_
      refine lv_icmp_ge (tgt := 149) hx hb d_O_answerTo_122 (by decide) (fun hc => ?_) (fun hc => ?_)
      · have hi : i = oc := by omega
        have e9 : (nI (ci_a ol (ci_t cc kd lf rg pt none (cc + gc)) i)) = (nI (ci_a ol (ci_t cc kd lf rg pt none (cc + gc)) oc)) := by rw [hi]
        have hl : lv_has ls 5 [(0, .ref o0), (3, .int (nI (ci_a ol (ci_t cc kd lf rg pt none (cc + gc)) oc))), (4, .int (nI i))] := by rw [← e9]; exact hl
        refine lv_iload_n hx hb d_O_answerTo_149 rfl (lv_at hl 1 rfl) ?_
        have hP := hP.sub (ws' := [(o0, .inr (4, [.int (nI fl), .long (lN p), .int (nI n), .long (lN vr), .int (nI ir), .long (lN od), .int (nI cc), .ref g1, .int (nI gc), .ref g2, .ref g3, .ref g4, .int (nI oc), .ref g5, .ref g6, .ref g7, .ref g8])), (g2, .inl (cI, 24, .inl (fun c => nI (kd c)))), (g3, .inl (cI, 24, .inl (fun c => nI (lf c)))), (g4, .inl (cI, 24, .inl (fun c => nI (rg c)))), (g5, .inl (cI, 16, .inl (fun c => nI (ol c)))), (g6, .inl (cI, 32, .inl (fun c => nI (u c))))]) [0, 1, 2, 3, 4, 5] rfl
        have hD := hD.sub (ws' := [(o0, .inr (4, [.int (nI fl), .long (lN p), .int (nI n), .long (lN vr), .int (nI ir), .long (lN od), .int (nI cc), .ref g1, .int (nI gc), .ref g2, .ref g3, .ref g4, .int (nI oc), .ref g5, .ref g6, .ref g7, .ref g8])), (g2, .inl (cI, 24, .inl (fun c => nI (kd c)))), (g3, .inl (cI, 24, .inl (fun c => nI (lf c)))), (g4, .inl (cI, 24, .inl (fun c => nI (rg c)))), (g5, .inl (cI, 16, .inl (fun c => nI (ol c)))), (g6, .inl (cI, 32, .inl (fun c => nI (u c))))]) [0, 1, 2, 3, 4, 5] (by decide) rfl
        exact W.iret (v := nI (ci_a ol (ci_t cc kd lf rg pt none (cc + gc)) oc)) hx hb hr (fun t9 ht hW => ⟨⟨nI (ci_a ol (ci_t cc kd lf rg pt none (cc + gc)) oc), u, rfl, rfl, by rw [ht]; exact hP, va_K.moved hW.alike hK, hD⟩, hS.F ht⟩) hS.2.2 d_O_answerTo_150
      · exact absurd ((nI_leI (by omega) (by omega)).mpr (by omega)) hc
    | succ j ih =>
      intro i u hj hI H locs hP hD hS ls hl
      have hol := hk.2.2.2.2 i (by omega)
      have hub := hI (ol i) hol
      refine lv_iload hx hb d_O_answerTo_116 (lv_at hl 2 rfl) ?_
      refine lv_aload_n hx hb d_O_answerTo_118 rfl (lv_at hl 0 rfl) ?_
      refine va_get (D := (dC, dI)) (ci := 4) (v := .int (nI oc)) (C := R_O) (T := F_O) (N := 17) hx hb hts in_O hown hK hP 0 rfl rfl 12 (by decide) (hts _ kw_540) (fun _ h9 => h9) rfl d_O_answerTo_119 ?_
      refine lv_icmp_ge (tgt := 149) hx hb d_O_answerTo_122 (by decide) (fun hc => ?_) (fun hc => ?_)
      · exact absurd ((nI_leI (by omega) (by omega)).mp hc) (by omega)
      · refine lv_iload_n hx hb d_O_answerTo_125 rfl (lv_at hl 1 rfl) ?_
        refine lv_aload_n hx hb d_O_answerTo_126 rfl (lv_at hl 0 rfl) ?_
        refine va_get (D := (dC, dI)) (ci := 4) (v := .ref g6) (C := R_O) (T := F_O) (N := 17) hx hb hts in_O hown hK hP 0 rfl rfl 14 (by decide) (hts _ kw_542) (fun _ h9 => h9) rfl d_O_answerTo_127 ?_
        refine lv_aload_n hx hb d_O_answerTo_130 rfl (lv_at hl 0 rfl) ?_
        refine va_get (D := (dC, dI)) (ci := 4) (v := .ref g5) (C := R_O) (T := F_O) (N := 17) hx hb hts in_O hown hK hP 0 rfl rfl 13 (by decide) (hts _ kw_541) (fun _ h9 => h9) rfl d_O_answerTo_131 ?_
        refine lv_iload hx hb d_O_answerTo_134 (lv_at hl 2 rfl) ?_
        refine va_iald (D := (dC, dI)) hx hb hK hP 4 0 rfl rfl (vp_in_nI (by omega) (by decide)) d_O_answerTo_136 ?_
        refine lv_topi (nm_r (show _ = nI (ol i) from congrArg (fun c => nI (ol c)) (nI_clamp (by omega))) ?_)
        refine va_iald (D := (dC, dI)) hx hb hK hP 5 0 rfl rfl (vp_in_nI (by omega) (by decide)) d_O_answerTo_137 ?_
        refine lv_topi (nm_r (show _ = nI (u (ol i)) from congrArg (fun c => nI (u c)) (nI_clamp (by omega))) ?_)
        refine lv_iload hx hb d_O_answerTo_138 (lv_at hl 2 rfl) ?_
        refine lv_ishl hx hb d_O_answerTo_140 ?_
        refine lv_ior hx hb d_O_answerTo_141 ?_
        refine lv_topi (nm_r (show _ = nI (ci_a ol (ci_t cc kd lf rg pt none (cc + gc)) (i + 1)) from an_turn (by omega) (by rw [hub]; exact Bool.toNat_lt _) (by rw [hub]; exact tn_1 _)) ?_)
        refine lv_istore_n (lv' := [(3, .int (nI (ci_a ol (ci_t cc kd lf rg pt none (cc + gc)) (i + 1)))), (0, .ref o0), (4, .int (nI i))]) hx hb d_O_answerTo_142 rfl hl (by decide) rfl (fun ls hl => ?_)
        refine lv_iinc (v := nI (i + 1)) (lv' := [(4, .int (nI (i + 1))), (3, .int (nI (ci_a ol (ci_t cc kd lf rg pt none (cc + gc)) (i + 1)))), (0, .ref o0)]) hx hb d_O_answerTo_143 hl (k := 2) rfl (nI_1 i) (by decide) rfl (fun ls hl => ?_)
        refine lv_goto (tgt := 116) hx hb d_O_answerTo_146 (by decide) ?_
        have hl := lv_sub (l' := [(0, .ref o0), (3, .int (nI (ci_a ol (ci_t cc kd lf rg pt none (cc + gc)) (i + 1)))), (4, .int (nI (i + 1)))]) hl [2, 1, 0] rfl
        exact ih (i + 1) u (by omega) hI H locs hP hD hS ls hl
  have lines : ∀ (j k : Nat) (u : Nat → Nat), j + k = cc + gc → lt_I cc kd lf rg pt none k u → ∀ (H : Heap) (locs : List Loc), va_P (dC, dI) classes [(o0, .inr (4, [.int (nI fl), .long (lN p), .int (nI n), .long (lN vr), .int (nI ir), .long (lN od), .int (nI cc), .ref g1, .int (nI gc), .ref g2, .ref g3, .ref g4, .int (nI oc), .ref g5, .ref g6, .ref g7, .ref g8])), (g2, .inl (cI, 24, .inl (fun c => nI (kd c)))), (g3, .inl (cI, 24, .inl (fun c => nI (lf c)))), (g4, .inl (cI, 24, .inl (fun c => nI (rg c)))), (g5, .inl (cI, 16, .inl (fun c => nI (ol c)))), (g6, .inl (cI, 32, .inl (fun c => nI (u c))))] H → va_D A [(o0, .inr (4, [.int (nI fl), .long (lN p), .int (nI n), .long (lN vr), .int (nI ir), .long (lN od), .int (nI cc), .ref g1, .int (nI gc), .ref g2, .ref g3, .ref g4, .int (nI oc), .ref g5, .ref g6, .ref g7, .ref g8])), (g2, .inl (cI, 24, .inl (fun c => nI (kd c)))), (g3, .inl (cI, 24, .inl (fun c => nI (lf c)))), (g4, .inl (cI, 24, .inl (fun c => nI (rg c)))), (g5, .inl (cI, 16, .inl (fun c => nI (ol c)))), (g6, .inl (cI, 32, .inl (fun c => nI (u c))))] → va_S A st.heap H locs → ∀ (ls : Array Slot), lv_has ls 5 [(0, .ref o0), (1, .int (nI pt)), (2, .int (-1)), (3, .int (nI k))] → W pg l en (headSpec w_O_answerTo ({ frames := 1, cells := 0, slots := 0, locals := 22 } : Room)).room st mm ([.ref o0, .int (nI pt), .int (-1)] : List Value).toArray bw me co H locs 0 0 (MQ bw (va_Qi (fun (r : Int32) (u : Nat → Nat) => r = nI (ci_a ol (ci_t cc kd lf rg pt none (cc + gc)) oc)) (fun (u : Nat → Nat) t => wq_B (dC, dI) classes [(cI, .int), (cL, .long)] A [(o0, .inr (4, [.int (nI fl), .long (lN p), .int (nI n), .long (lN vr), .int (nI ir), .long (lN od), .int (nI cc), .ref g1, .int (nI gc), .ref g2, .ref g3, .ref g4, .int (nI oc), .ref g5, .ref g6, .ref g7, .ref g8])), (g2, .inl (cI, 24, .inl (fun c => nI (kd c)))), (g3, .inl (cI, 24, .inl (fun c => nI (lf c)))), (g4, .inl (cI, 24, .inl (fun c => nI (rg c)))), (g5, .inl (cI, 16, .inl (fun c => nI (ol c)))), (g6, .inl (cI, 32, .inl (fun c => nI (u c))))] t) A) ([.ref o0, .int (nI pt), .int (-1)] : List Value).toArray st 0 0 A) (F0 mm 2 ls []) := by
    intro j
    induction j with
    | zero =>
      intro k u hj hI H locs hP hD hS ls hl
      refine lv_iload_n hx hb d_O_answerTo_2 rfl (lv_at hl 3 rfl) ?_
      refine lv_aload_n hx hb d_O_answerTo_3 rfl (lv_at hl 0 rfl) ?_
      refine va_get (D := (dC, dI)) (ci := 4) (v := .int (nI cc)) (C := R_O) (T := F_O) (N := 17) hx hb hts in_O hown hK hP 0 rfl rfl 6 (by decide) (hts _ kw_534) (fun _ h9 => h9) rfl d_O_answerTo_4 ?_
      refine lv_aload_n hx hb d_O_answerTo_7 rfl (lv_at hl 0 rfl) ?_
      refine va_get (D := (dC, dI)) (ci := 4) (v := .int (nI gc)) (C := R_O) (T := F_O) (N := 17) hx hb hts in_O hown hK hP 0 rfl rfl 8 (by decide) (hts _ kw_536) (fun _ h9 => h9) rfl d_O_answerTo_8 ?_
      refine lv_iadd hx hb d_O_answerTo_11 ?_
      refine lv_topi (nm_r (show _ = nI (cc + gc) from nI_add cc gc) ?_)
      refine lv_icmp_ge (tgt := 111) hx hb d_O_answerTo_12 (by decide) (fun hc => ?_) (fun hc => ?_)
      · have hkk : k = cc + gc := by omega
        rw [hkk] at hI
        refine lv_iconst (v := nI 0) hx hb d_O_answerTo_111 (by decide) ?_
        refine lv_istore_n (lv' := [(3, .int (nI 0)), (0, .ref o0), (1, .int (nI pt)), (2, .int (-1))]) hx hb d_O_answerTo_112 rfl hl (by decide) rfl (fun ls hl => ?_)
        refine lv_iconst (v := nI 0) hx hb d_O_answerTo_113 (by decide) ?_
        refine lv_istore (lv' := [(4, .int (nI 0)), (3, .int (nI 0)), (0, .ref o0), (1, .int (nI pt)), (2, .int (-1))]) hx hb d_O_answerTo_114 hl (by decide) rfl (fun ls hl => ?_)
        have hl := lv_sub (l' := [(0, .ref o0), (3, .int (nI 0)), (4, .int (nI 0))]) hl [2, 1, 0] rfl
        exact outs oc 0 u rfl hI H locs hP hD hS ls hl
      · exact absurd ((nI_leI (by omega) (by omega)).mpr (by omega)) hc
    | succ j ih =>
      intro k u hj hI H locs hP hD hS ls hl
      have hkl : k < cc + gc := by omega
      have hgl := ck_line hk hkl
      refine lv_iload_n hx hb d_O_answerTo_2 rfl (lv_at hl 3 rfl) ?_
      refine lv_aload_n hx hb d_O_answerTo_3 rfl (lv_at hl 0 rfl) ?_
      refine va_get (D := (dC, dI)) (ci := 4) (v := .int (nI cc)) (C := R_O) (T := F_O) (N := 17) hx hb hts in_O hown hK hP 0 rfl rfl 6 (by decide) (hts _ kw_534) (fun _ h9 => h9) rfl d_O_answerTo_4 ?_
      refine lv_aload_n hx hb d_O_answerTo_7 rfl (lv_at hl 0 rfl) ?_
      refine va_get (D := (dC, dI)) (ci := 4) (v := .int (nI gc)) (C := R_O) (T := F_O) (N := 17) hx hb hts in_O hown hK hP 0 rfl rfl 8 (by decide) (hts _ kw_536) (fun _ h9 => h9) rfl d_O_answerTo_8 ?_
      refine lv_iadd hx hb d_O_answerTo_11 ?_
      refine lv_topi (nm_r (show _ = nI (cc + gc) from nI_add cc gc) ?_)
      refine lv_icmp_ge (tgt := 111) hx hb d_O_answerTo_12 (by decide) (fun hc => ?_) (fun hc => ?_)
      · exact absurd ((nI_leI (by omega) (by omega)).mp hc) (by omega)
      · by_cases hkc : k < cc
        · obtain ⟨xv, hxv, hxn⟩ := im_neg hkc (by omega)
          refine lv_iload_n hx hb d_O_answerTo_15 rfl (lv_at hl 3 rfl) ?_
          refine lv_aload_n hx hb d_O_answerTo_16 rfl (lv_at hl 0 rfl) ?_
          refine va_get (D := (dC, dI)) (ci := 4) (v := .int (nI cc)) (C := R_O) (T := F_O) (N := 17) hx hb hts in_O hown hK hP 0 rfl rfl 6 (by decide) (hts _ kw_534) (fun _ h9 => h9) rfl d_O_answerTo_17 ?_
          refine lv_isub hx hb d_O_answerTo_20 ?_
          rw [hxv]
          refine lv_istore (lv' := [(4, .int xv), (0, .ref o0), (1, .int (nI pt)), (2, .int (-1)), (3, .int (nI k))]) hx hb d_O_answerTo_21 hl (by decide) rfl (fun ls hl => ?_)
          refine lv_aload_n hx hb d_O_answerTo_23 rfl (lv_at hl 1 rfl) ?_
          refine va_get (D := (dC, dI)) (ci := 4) (v := .ref g6) (C := R_O) (T := F_O) (N := 17) hx hb hts in_O hown hK hP 0 rfl rfl 14 (by decide) (hts _ kw_542) (fun _ h9 => h9) rfl d_O_answerTo_24 ?_
          refine lv_iload_n hx hb d_O_answerTo_27 rfl (lv_at hl 4 rfl) ?_
          refine lv_iload hx hb d_O_answerTo_28 (lv_at hl 0 rfl) ?_
          refine lv_if_ge (tgt := 41) hx hb d_O_answerTo_30 (by decide) (fun hc => absurd hc (hxn)) (fun _ => ?_)
          refine lv_iload_n hx hb d_O_answerTo_33 rfl (lv_at hl 2 rfl) ?_
          refine lv_iload_n hx hb d_O_answerTo_34 rfl (lv_at hl 4 rfl) ?_
          refine lv_ishr hx hb d_O_answerTo_35 ?_
          refine lv_iconst (v := nI 1) hx hb d_O_answerTo_36 (by decide) ?_
          refine lv_iand hx hb d_O_answerTo_37 ?_
          refine lv_topi (nm_r (show _ = nI (Bool.toNat (ci_v cc kd lf rg pt (ci_t cc kd lf rg pt none k) k)) from (isb1 hpt (by omega)).trans (by unfold ci_v; rw [if_pos hkc])) ?_)
          refine lv_goto (tgt := 75) hx hb d_O_answerTo_38 (by decide) ?_
          refine va_iast (D := (dC, dI)) (i := (nI k)) (x := (nI (Bool.toNat (ci_v cc kd lf rg pt (ci_t cc kd lf rg pt none k) k)))) hx hb hK hP hD hS 5 0 rfl rfl (vp_in_nI (by omega) (by decide)) d_O_answerTo_75 (fun H locs hP hD hS => ?_)
          rw [nI_clamp (by omega), upd_nI] at hP hD
          have hP : va_P (dC, dI) classes [(o0, .inr (4, [.int (nI fl), .long (lN p), .int (nI n), .long (lN vr), .int (nI ir), .long (lN od), .int (nI cc), .ref g1, .int (nI gc), .ref g2, .ref g3, .ref g4, .int (nI oc), .ref g5, .ref g6, .ref g7, .ref g8])), (g2, .inl (cI, 24, .inl (fun c => nI (kd c)))), (g3, .inl (cI, 24, .inl (fun c => nI (lf c)))), (g4, .inl (cI, 24, .inl (fun c => nI (rg c)))), (g5, .inl (cI, 16, .inl (fun c => nI (ol c)))), (g6, .inl (cI, 32, .inl (fun c => nI ((va_up u k (Bool.toNat (ci_v cc kd lf rg pt (ci_t cc kd lf rg pt none k) k))) c))))] H := hP
          have hD : va_D A [(o0, .inr (4, [.int (nI fl), .long (lN p), .int (nI n), .long (lN vr), .int (nI ir), .long (lN od), .int (nI cc), .ref g1, .int (nI gc), .ref g2, .ref g3, .ref g4, .int (nI oc), .ref g5, .ref g6, .ref g7, .ref g8])), (g2, .inl (cI, 24, .inl (fun c => nI (kd c)))), (g3, .inl (cI, 24, .inl (fun c => nI (lf c)))), (g4, .inl (cI, 24, .inl (fun c => nI (rg c)))), (g5, .inl (cI, 16, .inl (fun c => nI (ol c)))), (g6, .inl (cI, 32, .inl (fun c => nI ((va_up u k (Bool.toNat (ci_v cc kd lf rg pt (ci_t cc kd lf rg pt none k) k))) c))))] := hD
          refine lv_aload_n hx hb d_O_answerTo_76 rfl (lv_at hl 1 rfl) ?_
          refine va_get (D := (dC, dI)) (ci := 4) (v := .ref g6) (C := R_O) (T := F_O) (N := 17) hx hb hts in_O hown hK hP 0 rfl rfl 14 (by decide) (hts _ kw_542) (fun _ h9 => h9) rfl d_O_answerTo_77 ?_
          refine lv_iload_n hx hb d_O_answerTo_80 rfl (lv_at hl 4 rfl) ?_
          refine lv_iload_n hx hb d_O_answerTo_81 rfl (lv_at hl 3 rfl) ?_
          refine lv_if_lt (tgt := 98) hx hb d_O_answerTo_82 (by decide) (fun _ => ?_) (fun hc => absurd hc (show ¬ ¬ (-1 : Int32) < 0 from by decide))
          refine lv_aload_n hx hb d_O_answerTo_98 rfl (lv_at hl 1 rfl) ?_
          refine va_get (D := (dC, dI)) (ci := 4) (v := .ref g6) (C := R_O) (T := F_O) (N := 17) hx hb hts in_O hown hK hP 0 rfl rfl 14 (by decide) (hts _ kw_542) (fun _ h9 => h9) rfl d_O_answerTo_99 ?_
          refine lv_iload_n hx hb d_O_answerTo_102 rfl (lv_at hl 4 rfl) ?_
          refine va_iald (D := (dC, dI)) hx hb hK hP 5 0 rfl rfl (vp_in_nI (by omega) (by decide)) d_O_answerTo_103 ?_
          refine lv_topi (nm_r (show _ = nI ((va_up u k (Bool.toNat (ci_v cc kd lf rg pt (ci_t cc kd lf rg pt none k) k))) k) from congrArg (fun c => nI ((va_up u k (Bool.toNat (ci_v cc kd lf rg pt (ci_t cc kd lf rg pt none k) k))) c)) (nI_clamp (by omega))) ?_)
          refine lv_topi (nm_r (show _ = nI (Bool.toNat (ci_v cc kd lf rg pt (ci_t cc kd lf rg pt none k) k)) from by rw [va_up_self]) ?_)
          refine va_iast (D := (dC, dI)) (i := (nI k)) (x := (nI (Bool.toNat (ci_v cc kd lf rg pt (ci_t cc kd lf rg pt none k) k)))) hx hb hK hP hD hS 5 0 rfl rfl (vp_in_nI (by omega) (by decide)) d_O_answerTo_104 (fun H locs hP hD hS => ?_)
          rw [nI_clamp (by omega), upd_nI] at hP hD
          have hP : va_P (dC, dI) classes [(o0, .inr (4, [.int (nI fl), .long (lN p), .int (nI n), .long (lN vr), .int (nI ir), .long (lN od), .int (nI cc), .ref g1, .int (nI gc), .ref g2, .ref g3, .ref g4, .int (nI oc), .ref g5, .ref g6, .ref g7, .ref g8])), (g2, .inl (cI, 24, .inl (fun c => nI (kd c)))), (g3, .inl (cI, 24, .inl (fun c => nI (lf c)))), (g4, .inl (cI, 24, .inl (fun c => nI (rg c)))), (g5, .inl (cI, 16, .inl (fun c => nI (ol c)))), (g6, .inl (cI, 32, .inl (fun c => nI ((va_up (va_up u k (Bool.toNat (ci_v cc kd lf rg pt (ci_t cc kd lf rg pt none k) k))) k (Bool.toNat (ci_v cc kd lf rg pt (ci_t cc kd lf rg pt none k) k))) c))))] H := hP
          have hD : va_D A [(o0, .inr (4, [.int (nI fl), .long (lN p), .int (nI n), .long (lN vr), .int (nI ir), .long (lN od), .int (nI cc), .ref g1, .int (nI gc), .ref g2, .ref g3, .ref g4, .int (nI oc), .ref g5, .ref g6, .ref g7, .ref g8])), (g2, .inl (cI, 24, .inl (fun c => nI (kd c)))), (g3, .inl (cI, 24, .inl (fun c => nI (lf c)))), (g4, .inl (cI, 24, .inl (fun c => nI (rg c)))), (g5, .inl (cI, 16, .inl (fun c => nI (ol c)))), (g6, .inl (cI, 32, .inl (fun c => nI ((va_up (va_up u k (Bool.toNat (ci_v cc kd lf rg pt (ci_t cc kd lf rg pt none k) k))) k (Bool.toNat (ci_v cc kd lf rg pt (ci_t cc kd lf rg pt none k) k))) c))))] := hD
          refine lv_iinc (v := nI (k + 1)) (lv' := [(3, .int (nI (k + 1))), (4, .int xv), (0, .ref o0), (1, .int (nI pt)), (2, .int (-1))]) hx hb d_O_answerTo_105 hl (k := 4) rfl (nI_1 k) (by decide) rfl (fun ls hl => ?_)
          refine lv_goto (tgt := 2) hx hb d_O_answerTo_108 (by decide) ?_
          have hl := lv_sub (l' := [(0, .ref o0), (1, .int (nI pt)), (2, .int (-1)), (3, .int (nI (k + 1)))]) hl [2, 3, 4, 0] rfl
          exact ih (k + 1) (va_up (va_up u k (Bool.toNat (ci_v cc kd lf rg pt (ci_t cc kd lf rg pt none k) k))) k (Bool.toNat (ci_v cc kd lf rg pt (ci_t cc kd lf rg pt none k) k))) (by omega) (lt_turn hI (by rw [va_up_self]; rfl) (fun j hj => by rw [va_up_lt hj, va_up_lt hj])) H locs hP hD hS ls hl
        · obtain ⟨hl1, hl2⟩ := hgl (by omega)
          obtain ⟨hk5, -, -⟩ := hk.2.2.2.1 (k - cc) (by omega)
          refine lv_iload_n hx hb d_O_answerTo_15 rfl (lv_at hl 3 rfl) ?_
          refine lv_aload_n hx hb d_O_answerTo_16 rfl (lv_at hl 0 rfl) ?_
          refine va_get (D := (dC, dI)) (ci := 4) (v := .int (nI cc)) (C := R_O) (T := F_O) (N := 17) hx hb hts in_O hown hK hP 0 rfl rfl 6 (by decide) (hts _ kw_534) (fun _ h9 => h9) rfl d_O_answerTo_17 ?_
          refine lv_isub hx hb d_O_answerTo_20 ?_
          refine lv_topi (nm_r (show _ = nI (k - cc) from pk_sub (by omega)) ?_)
          refine lv_istore (lv' := [(4, .int (nI (k - cc))), (0, .ref o0), (1, .int (nI pt)), (2, .int (-1)), (3, .int (nI k))]) hx hb d_O_answerTo_21 hl (by decide) rfl (fun ls hl => ?_)
          refine lv_aload_n hx hb d_O_answerTo_23 rfl (lv_at hl 1 rfl) ?_
          refine va_get (D := (dC, dI)) (ci := 4) (v := .ref g6) (C := R_O) (T := F_O) (N := 17) hx hb hts in_O hown hK hP 0 rfl rfl 14 (by decide) (hts _ kw_542) (fun _ h9 => h9) rfl d_O_answerTo_24 ?_
          refine lv_iload_n hx hb d_O_answerTo_27 rfl (lv_at hl 4 rfl) ?_
          refine lv_iload hx hb d_O_answerTo_28 (lv_at hl 0 rfl) ?_
          refine lv_if_ge (tgt := 41) hx hb d_O_answerTo_30 (by decide) (fun _ => ?_) (fun hc => absurd hc (fun z => z (nI_ge0 (by omega))))
          refine lv_aload_n hx hb d_O_answerTo_41 rfl (lv_at hl 1 rfl) ?_
          refine va_get (D := (dC, dI)) (ci := 4) (v := .ref g2) (C := R_O) (T := F_O) (N := 17) hx hb hts in_O hown hK hP 0 rfl rfl 9 (by decide) (hts _ kw_537) (fun _ h9 => h9) rfl d_O_answerTo_42 ?_
          refine lv_iload hx hb d_O_answerTo_45 (lv_at hl 0 rfl) ?_
          refine va_iald (D := (dC, dI)) hx hb hK hP 1 0 rfl rfl (vp_in_nI (by omega) (by decide)) d_O_answerTo_47 ?_
          refine lv_topi (nm_r (show _ = nI (kd (k - cc)) from congrArg (fun c => nI (kd c)) (nI_clamp (by omega))) ?_)
          refine lv_aload_n hx hb d_O_answerTo_48 rfl (lv_at hl 1 rfl) ?_
          refine va_get (D := (dC, dI)) (ci := 4) (v := .ref g6) (C := R_O) (T := F_O) (N := 17) hx hb hts in_O hown hK hP 0 rfl rfl 14 (by decide) (hts _ kw_542) (fun _ h9 => h9) rfl d_O_answerTo_49 ?_
          refine lv_aload_n hx hb d_O_answerTo_52 rfl (lv_at hl 1 rfl) ?_
          refine va_get (D := (dC, dI)) (ci := 4) (v := .ref g3) (C := R_O) (T := F_O) (N := 17) hx hb hts in_O hown hK hP 0 rfl rfl 10 (by decide) (hts _ kw_538) (fun _ h9 => h9) rfl d_O_answerTo_53 ?_
          refine lv_iload hx hb d_O_answerTo_56 (lv_at hl 0 rfl) ?_
          refine va_iald (D := (dC, dI)) hx hb hK hP 2 0 rfl rfl (vp_in_nI (by omega) (by decide)) d_O_answerTo_58 ?_
          refine lv_topi (nm_r (show _ = nI (lf (k - cc)) from congrArg (fun c => nI (lf c)) (nI_clamp (by omega))) ?_)
          refine va_iald (D := (dC, dI)) hx hb hK hP 5 0 rfl rfl (vp_in_nI (by omega) (by decide)) d_O_answerTo_59 ?_
          refine lv_topi (nm_r (show _ = nI (u (lf (k - cc))) from congrArg (fun c => nI (u c)) (nI_clamp (by omega))) ?_)
          refine lv_topi (nm_r (show _ = nI (Bool.toNat (ci_t cc kd lf rg pt none k (lf (k - cc)))) from by rw [hI _ hl1]) ?_)
          refine lv_aload_n hx hb d_O_answerTo_60 rfl (lv_at hl 1 rfl) ?_
          refine va_get (D := (dC, dI)) (ci := 4) (v := .ref g6) (C := R_O) (T := F_O) (N := 17) hx hb hts in_O hown hK hP 0 rfl rfl 14 (by decide) (hts _ kw_542) (fun _ h9 => h9) rfl d_O_answerTo_61 ?_
          refine lv_aload_n hx hb d_O_answerTo_64 rfl (lv_at hl 1 rfl) ?_
          refine va_get (D := (dC, dI)) (ci := 4) (v := .ref g4) (C := R_O) (T := F_O) (N := 17) hx hb hts in_O hown hK hP 0 rfl rfl 11 (by decide) (hts _ kw_539) (fun _ h9 => h9) rfl d_O_answerTo_65 ?_
          refine lv_iload hx hb d_O_answerTo_68 (lv_at hl 0 rfl) ?_
          refine va_iald (D := (dC, dI)) hx hb hK hP 3 0 rfl rfl (vp_in_nI (by omega) (by decide)) d_O_answerTo_70 ?_
          refine lv_topi (nm_r (show _ = nI (rg (k - cc)) from congrArg (fun c => nI (rg c)) (nI_clamp (by omega))) ?_)
          refine va_iald (D := (dC, dI)) hx hb hK hP 5 0 rfl rfl (vp_in_nI (by omega) (by decide)) d_O_answerTo_71 ?_
          refine lv_topi (nm_r (show _ = nI (u (rg (k - cc))) from congrArg (fun c => nI (u c)) (nI_clamp (by omega))) ?_)
          refine lv_topi (nm_r (show _ = nI (Bool.toNat (ci_t cc kd lf rg pt none k (rg (k - cc)))) from by rw [hI _ hl2]) ?_)
          refine vp_callSi (va_Run.run (va_runS (As := [.int (nI (kd (k - cc))), .int (nI (Bool.toNat (ci_t cc kd lf rg pt none k (lf (k - cc))))), .int (nI (Bool.toNat (ci_t cc kd lf rg pt none k (rg (k - cc)))))]) (rest := [.int (nI k), .ref g6]) ⟨hx, hb, hml, hown, hts⟩ (c_O_worth l (kd (k - cc)) _ _ hk5) (va_cwS 3 hts (gi_S kw_693 kw_694 kw_5 gi_O_worth) rfl rfl rfl ⟨by decide, by decide, by decide⟩ ⟨Nat.le_of_ble_eq_true rfl, Nat.le_of_ble_eq_true rfl⟩) wq_preS0 rfl rfl hl.1 rfl (lv_room (Nat.le_of_ble_eq_true rfl)) d_O_answerTo_72 ⟨Nat.le_of_ble_eq_true rfl, Nat.le_of_ble_eq_true rfl⟩)) (fun r hq => ?_)
          have hq : r = nI (Bool.toNat (ci_v cc kd lf rg pt (ci_t cc kd lf rg pt none k) k)) := by
            rw [hq]
            unfold ci_v
            rw [if_neg hkc]
          subst hq
          refine va_iast (D := (dC, dI)) (i := (nI k)) (x := (nI (Bool.toNat (ci_v cc kd lf rg pt (ci_t cc kd lf rg pt none k) k)))) hx hb hK hP hD hS 5 0 rfl rfl (vp_in_nI (by omega) (by decide)) d_O_answerTo_75 (fun H locs hP hD hS => ?_)
          rw [nI_clamp (by omega), upd_nI] at hP hD
          have hP : va_P (dC, dI) classes [(o0, .inr (4, [.int (nI fl), .long (lN p), .int (nI n), .long (lN vr), .int (nI ir), .long (lN od), .int (nI cc), .ref g1, .int (nI gc), .ref g2, .ref g3, .ref g4, .int (nI oc), .ref g5, .ref g6, .ref g7, .ref g8])), (g2, .inl (cI, 24, .inl (fun c => nI (kd c)))), (g3, .inl (cI, 24, .inl (fun c => nI (lf c)))), (g4, .inl (cI, 24, .inl (fun c => nI (rg c)))), (g5, .inl (cI, 16, .inl (fun c => nI (ol c)))), (g6, .inl (cI, 32, .inl (fun c => nI ((va_up u k (Bool.toNat (ci_v cc kd lf rg pt (ci_t cc kd lf rg pt none k) k))) c))))] H := hP
          have hD : va_D A [(o0, .inr (4, [.int (nI fl), .long (lN p), .int (nI n), .long (lN vr), .int (nI ir), .long (lN od), .int (nI cc), .ref g1, .int (nI gc), .ref g2, .ref g3, .ref g4, .int (nI oc), .ref g5, .ref g6, .ref g7, .ref g8])), (g2, .inl (cI, 24, .inl (fun c => nI (kd c)))), (g3, .inl (cI, 24, .inl (fun c => nI (lf c)))), (g4, .inl (cI, 24, .inl (fun c => nI (rg c)))), (g5, .inl (cI, 16, .inl (fun c => nI (ol c)))), (g6, .inl (cI, 32, .inl (fun c => nI ((va_up u k (Bool.toNat (ci_v cc kd lf rg pt (ci_t cc kd lf rg pt none k) k))) c))))] := hD
          refine lv_aload_n hx hb d_O_answerTo_76 rfl (lv_at hl 1 rfl) ?_
          refine va_get (D := (dC, dI)) (ci := 4) (v := .ref g6) (C := R_O) (T := F_O) (N := 17) hx hb hts in_O hown hK hP 0 rfl rfl 14 (by decide) (hts _ kw_542) (fun _ h9 => h9) rfl d_O_answerTo_77 ?_
          refine lv_iload_n hx hb d_O_answerTo_80 rfl (lv_at hl 4 rfl) ?_
          refine lv_iload_n hx hb d_O_answerTo_81 rfl (lv_at hl 3 rfl) ?_
          refine lv_if_lt (tgt := 98) hx hb d_O_answerTo_82 (by decide) (fun _ => ?_) (fun hc => absurd hc (show ¬ ¬ (-1 : Int32) < 0 from by decide))
          refine lv_aload_n hx hb d_O_answerTo_98 rfl (lv_at hl 1 rfl) ?_
          refine va_get (D := (dC, dI)) (ci := 4) (v := .ref g6) (C := R_O) (T := F_O) (N := 17) hx hb hts in_O hown hK hP 0 rfl rfl 14 (by decide) (hts _ kw_542) (fun _ h9 => h9) rfl d_O_answerTo_99 ?_
          refine lv_iload_n hx hb d_O_answerTo_102 rfl (lv_at hl 4 rfl) ?_
          refine va_iald (D := (dC, dI)) hx hb hK hP 5 0 rfl rfl (vp_in_nI (by omega) (by decide)) d_O_answerTo_103 ?_
          refine lv_topi (nm_r (show _ = nI ((va_up u k (Bool.toNat (ci_v cc kd lf rg pt (ci_t cc kd lf rg pt none k) k))) k) from congrArg (fun c => nI ((va_up u k (Bool.toNat (ci_v cc kd lf rg pt (ci_t cc kd lf rg pt none k) k))) c)) (nI_clamp (by omega))) ?_)
          refine lv_topi (nm_r (show _ = nI (Bool.toNat (ci_v cc kd lf rg pt (ci_t cc kd lf rg pt none k) k)) from by rw [va_up_self]) ?_)
          refine va_iast (D := (dC, dI)) (i := (nI k)) (x := (nI (Bool.toNat (ci_v cc kd lf rg pt (ci_t cc kd lf rg pt none k) k)))) hx hb hK hP hD hS 5 0 rfl rfl (vp_in_nI (by omega) (by decide)) d_O_answerTo_104 (fun H locs hP hD hS => ?_)
          rw [nI_clamp (by omega), upd_nI] at hP hD
          have hP : va_P (dC, dI) classes [(o0, .inr (4, [.int (nI fl), .long (lN p), .int (nI n), .long (lN vr), .int (nI ir), .long (lN od), .int (nI cc), .ref g1, .int (nI gc), .ref g2, .ref g3, .ref g4, .int (nI oc), .ref g5, .ref g6, .ref g7, .ref g8])), (g2, .inl (cI, 24, .inl (fun c => nI (kd c)))), (g3, .inl (cI, 24, .inl (fun c => nI (lf c)))), (g4, .inl (cI, 24, .inl (fun c => nI (rg c)))), (g5, .inl (cI, 16, .inl (fun c => nI (ol c)))), (g6, .inl (cI, 32, .inl (fun c => nI ((va_up (va_up u k (Bool.toNat (ci_v cc kd lf rg pt (ci_t cc kd lf rg pt none k) k))) k (Bool.toNat (ci_v cc kd lf rg pt (ci_t cc kd lf rg pt none k) k))) c))))] H := hP
          have hD : va_D A [(o0, .inr (4, [.int (nI fl), .long (lN p), .int (nI n), .long (lN vr), .int (nI ir), .long (lN od), .int (nI cc), .ref g1, .int (nI gc), .ref g2, .ref g3, .ref g4, .int (nI oc), .ref g5, .ref g6, .ref g7, .ref g8])), (g2, .inl (cI, 24, .inl (fun c => nI (kd c)))), (g3, .inl (cI, 24, .inl (fun c => nI (lf c)))), (g4, .inl (cI, 24, .inl (fun c => nI (rg c)))), (g5, .inl (cI, 16, .inl (fun c => nI (ol c)))), (g6, .inl (cI, 32, .inl (fun c => nI ((va_up (va_up u k (Bool.toNat (ci_v cc kd lf rg pt (ci_t cc kd lf rg pt none k) k))) k (Bool.toNat (ci_v cc kd lf rg pt (ci_t cc kd lf rg pt none k) k))) c))))] := hD
          refine lv_iinc (v := nI (k + 1)) (lv' := [(3, .int (nI (k + 1))), (4, .int (nI (k - cc))), (0, .ref o0), (1, .int (nI pt)), (2, .int (-1))]) hx hb d_O_answerTo_105 hl (k := 4) rfl (nI_1 k) (by decide) rfl (fun ls hl => ?_)
          refine lv_goto (tgt := 2) hx hb d_O_answerTo_108 (by decide) ?_
          have hl := lv_sub (l' := [(0, .ref o0), (1, .int (nI pt)), (2, .int (-1)), (3, .int (nI (k + 1)))]) hl [2, 3, 4, 0] rfl
          exact ih (k + 1) (va_up (va_up u k (Bool.toNat (ci_v cc kd lf rg pt (ci_t cc kd lf rg pt none k) k))) k (Bool.toNat (ci_v cc kd lf rg pt (ci_t cc kd lf rg pt none k) k))) (by omega) (lt_turn hI (by rw [va_up_self]; rfl) (fun j hj => by rw [va_up_lt hj, va_up_lt hj])) H locs hP hD hS ls hl
  refine lv_iconst (v := nI 0) hx hb d_O_answerTo_0 (by decide) ?_
  refine lv_istore_n (lv' := [(3, .int (nI 0)), (0, .ref o0), (1, .int (nI pt)), (2, .int (-1))]) hx hb d_O_answerTo_1 rfl hl (by decide) rfl (fun ls hl => ?_)
  have hl := lv_sub (l' := [(0, .ref o0), (1, .int (nI pt)), (2, .int (-1)), (3, .int (nI 0))]) hl [1, 2, 3, 0] rfl
  exact lines (cc + gc) 0 ln rfl (fun j hj => absurd hj (Nat.not_lt_zero j)) _ _ hP hD hS ls hl
set_option maxHeartbeats 4000000 in
set_option maxRecDepth 100000 in
theorem c_O_answerToF (l : Launch) (dC : Nat → ClassId) (dI : Nat → Nat → Nat) (cI cL : ClassId) (sz : Nat) (o0 g1 g2 g3 g4 g5 g6 g7 g8 : Nat) (fl p n vr ir od cc gc oc : Nat) (kd lf rg ol : Nat → Nat) (hk : ck cc gc oc kd lf rg ol) (ln : Nat → Nat) (pt : Nat) (hpt : pt < 2 ^ 32) (ff : Nat) (hff : ff < 64) : Met l y_O_answerTo w_O_answerTo ({ frames := 1, cells := 0, slots := 0, locals := 22 } : Room) (va_Pc [.ref o0, .int (nI pt), .int (nI ff)] (wq_W (dC, dI) classes [(o0, .inr (4, [.int (nI fl), .long (lN p), .int (nI n), .long (lN vr), .int (nI ir), .long (lN od), .int (nI cc), .ref g1, .int (nI gc), .ref g2, .ref g3, .ref g4, .int (nI oc), .ref g5, .ref g6, .ref g7, .ref g8])), (g2, .inl (cI, 24, .inl (fun c => nI (kd c)))), (g3, .inl (cI, 24, .inl (fun c => nI (lf c)))), (g4, .inl (cI, 24, .inl (fun c => nI (rg c)))), (g5, .inl (cI, 16, .inl (fun c => nI (ol c)))), (g6, .inl (cI, 32, .inl (fun c => nI (ln c))))] [(cI, .int), (cL, .long)] sz)) (va_Qi (fun (r : Int32) (u : Nat → Nat) => r = nI (ci_a ol (ci_t cc kd lf rg pt (some ff) (cc + gc)) oc)) (fun (u : Nat → Nat) t => wq_B (dC, dI) classes [(cI, .int), (cL, .long)] (va_A [(o0, .inr (4, [.int (nI fl), .long (lN p), .int (nI n), .long (lN vr), .int (nI ir), .long (lN od), .int (nI cc), .ref g1, .int (nI gc), .ref g2, .ref g3, .ref g4, .int (nI oc), .ref g5, .ref g6, .ref g7, .ref g8])), (g2, .inl (cI, 24, .inl (fun c => nI (kd c)))), (g3, .inl (cI, 24, .inl (fun c => nI (lf c)))), (g4, .inl (cI, 24, .inl (fun c => nI (rg c)))), (g5, .inl (cI, 16, .inl (fun c => nI (ol c)))), (g6, .inl (cI, 32, .inl (fun c => nI (ln c))))] sz) [(o0, .inr (4, [.int (nI fl), .long (lN p), .int (nI n), .long (lN vr), .int (nI ir), .long (lN od), .int (nI cc), .ref g1, .int (nI gc), .ref g2, .ref g3, .ref g4, .int (nI oc), .ref g5, .ref g6, .ref g7, .ref g8])), (g2, .inl (cI, 24, .inl (fun c => nI (kd c)))), (g3, .inl (cI, 24, .inl (fun c => nI (lf c)))), (g4, .inl (cI, 24, .inl (fun c => nI (rg c)))), (g5, .inl (cI, 16, .inl (fun c => nI (ol c)))), (g6, .inl (cI, 32, .inl (fun c => nI (u c))))] t) (va_A [(o0, .inr (4, [.int (nI fl), .long (lN p), .int (nI n), .long (lN vr), .int (nI ir), .long (lN od), .int (nI cc), .ref g1, .int (nI gc), .ref g2, .ref g3, .ref g4, .int (nI oc), .ref g5, .ref g6, .ref g7, .ref g8])), (g2, .inl (cI, 24, .inl (fun c => nI (kd c)))), (g3, .inl (cI, 24, .inl (fun c => nI (lf c)))), (g4, .inl (cI, 24, .inl (fun c => nI (rg c)))), (g5, .inl (cI, 16, .inl (fun c => nI (ol c)))), (g6, .inl (cI, 32, .inl (fun c => nI (ln c))))] sz)) 0 0 (va_A [(o0, .inr (4, [.int (nI fl), .long (lN p), .int (nI n), .long (lN vr), .int (nI ir), .long (lN od), .int (nI cc), .ref g1, .int (nI gc), .ref g2, .ref g3, .ref g4, .int (nI oc), .ref g5, .ref g6, .ref g7, .ref g8])), (g2, .inl (cI, 24, .inl (fun c => nI (kd c)))), (g3, .inl (cI, 24, .inl (fun c => nI (lf c)))), (g4, .inl (cI, 24, .inl (fun c => nI (rg c)))), (g5, .inl (cI, 16, .inl (fun c => nI (ol c)))), (g6, .inl (cI, 32, .inl (fun c => nI (ln c))))] sz) := by
  refine Met.ofW (cc := b_O_answerTo) (maxL := 5) (ret := (Option.some Jvm.ClassFile.FieldType.int)) (by decide) rfl ?_
  intro pg en st mm ar bw me co s₁ B hml hv
  obtain ⟨rfl, hsz, hP, hK, hD0, hN⟩ := hv
  have hx := B.exec
  have hb := B.bytes
  have hr := B.returns
  have hlocks := B.notSynchronized
  have hts0 := atoms_spec (ws := w_O_answerTo) B.pre
  have hts : ∀ w ∈ gw, w.before _ st = true := fun w h => hts0 w (List.mem_cons_of_mem _ h)
  have hown : st.vm.findClass R_O = some mm.cls := findClass_of_methodNamed B.named
  subst hsz
  have hD := hD0.self (sz := st.heap.size)
  generalize hAe : va_A [(o0, .inr (4, [.int (nI fl), .long (lN p), .int (nI n), .long (lN vr), .int (nI ir), .long (lN od), .int (nI cc), .ref g1, .int (nI gc), .ref g2, .ref g3, .ref g4, .int (nI oc), .ref g5, .ref g6, .ref g7, .ref g8])), (g2, .inl (cI, 24, .inl (fun c => nI (kd c)))), (g3, .inl (cI, 24, .inl (fun c => nI (lf c)))), (g4, .inl (cI, 24, .inl (fun c => nI (rg c)))), (g5, .inl (cI, 16, .inl (fun c => nI (ol c)))), (g6, .inl (cI, 32, .inl (fun c => nI (ln c))))] st.heap.size = A at hD ⊢
  have hA : ∀ q : Nat, st.heap.size ≤ q → A q := fun q h => by rw [← hAe]; exact Or.inr h
  have hS : va_S A st.heap st.heap [] := va_S.rf
  have hl := lv_entry ([.ref o0, .int (nI pt), .int (nI ff)]) (n := 5) (Nat.le_of_ble_eq_true rfl)
  rw [lg_entry_eq]
  generalize (lg_sl ([.ref o0, .int (nI pt), .int (nI ff)]) ++ List.replicate (5 - (lg_sl ([.ref o0, .int (nI pt), .int (nI ff)])).length) Slot.unset).toArray = ls at hl ⊢
  have hl : lv_has ls 5 [(0, .ref o0), (1, .int (nI pt)), (2, .int (nI ff))] := hl
  have h1 := hk.1
  have h2 := hk.2.1
  have h3 := hk.2.2.1
  have outs : ∀ (j i : Nat) (u : Nat → Nat), j + i = oc → lt_I cc kd lf rg pt (some ff) (cc + gc) u → ∀ (H : Heap) (locs : List Loc), va_P (dC, dI) classes [(o0, .inr (4, [.int (nI fl), .long (lN p), .int (nI n), .long (lN vr), .int (nI ir), .long (lN od), .int (nI cc), .ref g1, .int (nI gc), .ref g2, .ref g3, .ref g4, .int (nI oc), .ref g5, .ref g6, .ref g7, .ref g8])), (g2, .inl (cI, 24, .inl (fun c => nI (kd c)))), (g3, .inl (cI, 24, .inl (fun c => nI (lf c)))), (g4, .inl (cI, 24, .inl (fun c => nI (rg c)))), (g5, .inl (cI, 16, .inl (fun c => nI (ol c)))), (g6, .inl (cI, 32, .inl (fun c => nI (u c))))] H → va_D A [(o0, .inr (4, [.int (nI fl), .long (lN p), .int (nI n), .long (lN vr), .int (nI ir), .long (lN od), .int (nI cc), .ref g1, .int (nI gc), .ref g2, .ref g3, .ref g4, .int (nI oc), .ref g5, .ref g6, .ref g7, .ref g8])), (g2, .inl (cI, 24, .inl (fun c => nI (kd c)))), (g3, .inl (cI, 24, .inl (fun c => nI (lf c)))), (g4, .inl (cI, 24, .inl (fun c => nI (rg c)))), (g5, .inl (cI, 16, .inl (fun c => nI (ol c)))), (g6, .inl (cI, 32, .inl (fun c => nI (u c))))] → va_S A st.heap H locs → ∀ (ls : Array Slot), lv_has ls 5 [(0, .ref o0), (3, .int (nI (ci_a ol (ci_t cc kd lf rg pt (some ff) (cc + gc)) i))), (4, .int (nI i))] → W pg l en (headSpec w_O_answerTo ({ frames := 1, cells := 0, slots := 0, locals := 22 } : Room)).room st mm ([.ref o0, .int (nI pt), .int (nI ff)] : List Value).toArray bw me co H locs 0 0 (MQ bw (va_Qi (fun (r : Int32) (u : Nat → Nat) => r = nI (ci_a ol (ci_t cc kd lf rg pt (some ff) (cc + gc)) oc)) (fun (u : Nat → Nat) t => wq_B (dC, dI) classes [(cI, .int), (cL, .long)] A [(o0, .inr (4, [.int (nI fl), .long (lN p), .int (nI n), .long (lN vr), .int (nI ir), .long (lN od), .int (nI cc), .ref g1, .int (nI gc), .ref g2, .ref g3, .ref g4, .int (nI oc), .ref g5, .ref g6, .ref g7, .ref g8])), (g2, .inl (cI, 24, .inl (fun c => nI (kd c)))), (g3, .inl (cI, 24, .inl (fun c => nI (lf c)))), (g4, .inl (cI, 24, .inl (fun c => nI (rg c)))), (g5, .inl (cI, 16, .inl (fun c => nI (ol c)))), (g6, .inl (cI, 32, .inl (fun c => nI (u c))))] t) A) ([.ref o0, .int (nI pt), .int (nI ff)] : List Value).toArray st 0 0 A) (F0 mm 116 ls []) := by
    intro j
    induction j with
    | zero =>
      intro i u hj hI H locs hP hD hS ls hl
      refine lv_iload hx hb d_O_answerTo_116 (lv_at hl 2 rfl) ?_
      refine lv_aload_n hx hb d_O_answerTo_118 rfl (lv_at hl 0 rfl) ?_
      refine va_get (D := (dC, dI)) (ci := 4) (v := .int (nI oc)) (C := R_O) (T := F_O) (N := 17) hx hb hts in_O hown hK hP 0 rfl rfl 12 (by decide) (hts _ kw_540) (fun _ h9 => h9) rfl d_O_answerTo_119 ?_
      refine lv_icmp_ge (tgt := 149) hx hb d_O_answerTo_122 (by decide) (fun hc => ?_) (fun hc => ?_)
      · have hi : i = oc := by omega
        have e9 : (nI (ci_a ol (ci_t cc kd lf rg pt (some ff) (cc + gc)) i)) = (nI (ci_a ol (ci_t cc kd lf rg pt (some ff) (cc + gc)) oc)) := by rw [hi]
        have hl : lv_has ls 5 [(0, .ref o0), (3, .int (nI (ci_a ol (ci_t cc kd lf rg pt (some ff) (cc + gc)) oc))), (4, .int (nI i))] := by rw [← e9]; exact hl
        refine lv_iload_n hx hb d_O_answerTo_149 rfl (lv_at hl 1 rfl) ?_
        have hP := hP.sub (ws' := [(o0, .inr (4, [.int (nI fl), .long (lN p), .int (nI n), .long (lN vr), .int (nI ir), .long (lN od), .int (nI cc), .ref g1, .int (nI gc), .ref g2, .ref g3, .ref g4, .int (nI oc), .ref g5, .ref g6, .ref g7, .ref g8])), (g2, .inl (cI, 24, .inl (fun c => nI (kd c)))), (g3, .inl (cI, 24, .inl (fun c => nI (lf c)))), (g4, .inl (cI, 24, .inl (fun c => nI (rg c)))), (g5, .inl (cI, 16, .inl (fun c => nI (ol c)))), (g6, .inl (cI, 32, .inl (fun c => nI (u c))))]) [0, 1, 2, 3, 4, 5] rfl
        have hD := hD.sub (ws' := [(o0, .inr (4, [.int (nI fl), .long (lN p), .int (nI n), .long (lN vr), .int (nI ir), .long (lN od), .int (nI cc), .ref g1, .int (nI gc), .ref g2, .ref g3, .ref g4, .int (nI oc), .ref g5, .ref g6, .ref g7, .ref g8])), (g2, .inl (cI, 24, .inl (fun c => nI (kd c)))), (g3, .inl (cI, 24, .inl (fun c => nI (lf c)))), (g4, .inl (cI, 24, .inl (fun c => nI (rg c)))), (g5, .inl (cI, 16, .inl (fun c => nI (ol c)))), (g6, .inl (cI, 32, .inl (fun c => nI (u c))))]) [0, 1, 2, 3, 4, 5] (by decide) rfl
        exact W.iret (v := nI (ci_a ol (ci_t cc kd lf rg pt (some ff) (cc + gc)) oc)) hx hb hr (fun t9 ht hW => ⟨⟨nI (ci_a ol (ci_t cc kd lf rg pt (some ff) (cc + gc)) oc), u, rfl, rfl, by rw [ht]; exact hP, va_K.moved hW.alike hK, hD⟩, hS.F ht⟩) hS.2.2 d_O_answerTo_150
      · exact absurd ((nI_leI (by omega) (by omega)).mpr (by omega)) hc
    | succ j ih =>
      intro i u hj hI H locs hP hD hS ls hl
      have hol := hk.2.2.2.2 i (by omega)
      have hub := hI (ol i) hol
      refine lv_iload hx hb d_O_answerTo_116 (lv_at hl 2 rfl) ?_
      refine lv_aload_n hx hb d_O_answerTo_118 rfl (lv_at hl 0 rfl) ?_
      refine va_get (D := (dC, dI)) (ci := 4) (v := .int (nI oc)) (C := R_O) (T := F_O) (N := 17) hx hb hts in_O hown hK hP 0 rfl rfl 12 (by decide) (hts _ kw_540) (fun _ h9 => h9) rfl d_O_answerTo_119 ?_
      refine lv_icmp_ge (tgt := 149) hx hb d_O_answerTo_122 (by decide) (fun hc => ?_) (fun hc => ?_)
      · exact absurd ((nI_leI (by omega) (by omega)).mp hc) (by omega)
      · refine lv_iload_n hx hb d_O_answerTo_125 rfl (lv_at hl 1 rfl) ?_
        refine lv_aload_n hx hb d_O_answerTo_126 rfl (lv_at hl 0 rfl) ?_
        refine va_get (D := (dC, dI)) (ci := 4) (v := .ref g6) (C := R_O) (T := F_O) (N := 17) hx hb hts in_O hown hK hP 0 rfl rfl 14 (by decide) (hts _ kw_542) (fun _ h9 => h9) rfl d_O_answerTo_127 ?_
        refine lv_aload_n hx hb d_O_answerTo_130 rfl (lv_at hl 0 rfl) ?_
        refine va_get (D := (dC, dI)) (ci := 4) (v := .ref g5) (C := R_O) (T := F_O) (N := 17) hx hb hts in_O hown hK hP 0 rfl rfl 13 (by decide) (hts _ kw_541) (fun _ h9 => h9) rfl d_O_answerTo_131 ?_
        refine lv_iload hx hb d_O_answerTo_134 (lv_at hl 2 rfl) ?_
        refine va_iald (D := (dC, dI)) hx hb hK hP 4 0 rfl rfl (vp_in_nI (by omega) (by decide)) d_O_answerTo_136 ?_
        refine lv_topi (nm_r (show _ = nI (ol i) from congrArg (fun c => nI (ol c)) (nI_clamp (by omega))) ?_)
        refine va_iald (D := (dC, dI)) hx hb hK hP 5 0 rfl rfl (vp_in_nI (by omega) (by decide)) d_O_answerTo_137 ?_
        refine lv_topi (nm_r (show _ = nI (u (ol i)) from congrArg (fun c => nI (u c)) (nI_clamp (by omega))) ?_)
        refine lv_iload hx hb d_O_answerTo_138 (lv_at hl 2 rfl) ?_
        refine lv_ishl hx hb d_O_answerTo_140 ?_
        refine lv_ior hx hb d_O_answerTo_141 ?_
        refine lv_topi (nm_r (show _ = nI (ci_a ol (ci_t cc kd lf rg pt (some ff) (cc + gc)) (i + 1)) from an_turn (by omega) (by rw [hub]; exact Bool.toNat_lt _) (by rw [hub]; exact tn_1 _)) ?_)
        refine lv_istore_n (lv' := [(3, .int (nI (ci_a ol (ci_t cc kd lf rg pt (some ff) (cc + gc)) (i + 1)))), (0, .ref o0), (4, .int (nI i))]) hx hb d_O_answerTo_142 rfl hl (by decide) rfl (fun ls hl => ?_)
        refine lv_iinc (v := nI (i + 1)) (lv' := [(4, .int (nI (i + 1))), (3, .int (nI (ci_a ol (ci_t cc kd lf rg pt (some ff) (cc + gc)) (i + 1)))), (0, .ref o0)]) hx hb d_O_answerTo_143 hl (k := 2) rfl (nI_1 i) (by decide) rfl (fun ls hl => ?_)
        refine lv_goto (tgt := 116) hx hb d_O_answerTo_146 (by decide) ?_
        have hl := lv_sub (l' := [(0, .ref o0), (3, .int (nI (ci_a ol (ci_t cc kd lf rg pt (some ff) (cc + gc)) (i + 1)))), (4, .int (nI (i + 1)))]) hl [2, 1, 0] rfl
        exact ih (i + 1) u (by omega) hI H locs hP hD hS ls hl
  have lines : ∀ (j k : Nat) (u : Nat → Nat), j + k = cc + gc → lt_I cc kd lf rg pt (some ff) k u → ∀ (H : Heap) (locs : List Loc), va_P (dC, dI) classes [(o0, .inr (4, [.int (nI fl), .long (lN p), .int (nI n), .long (lN vr), .int (nI ir), .long (lN od), .int (nI cc), .ref g1, .int (nI gc), .ref g2, .ref g3, .ref g4, .int (nI oc), .ref g5, .ref g6, .ref g7, .ref g8])), (g2, .inl (cI, 24, .inl (fun c => nI (kd c)))), (g3, .inl (cI, 24, .inl (fun c => nI (lf c)))), (g4, .inl (cI, 24, .inl (fun c => nI (rg c)))), (g5, .inl (cI, 16, .inl (fun c => nI (ol c)))), (g6, .inl (cI, 32, .inl (fun c => nI (u c))))] H → va_D A [(o0, .inr (4, [.int (nI fl), .long (lN p), .int (nI n), .long (lN vr), .int (nI ir), .long (lN od), .int (nI cc), .ref g1, .int (nI gc), .ref g2, .ref g3, .ref g4, .int (nI oc), .ref g5, .ref g6, .ref g7, .ref g8])), (g2, .inl (cI, 24, .inl (fun c => nI (kd c)))), (g3, .inl (cI, 24, .inl (fun c => nI (lf c)))), (g4, .inl (cI, 24, .inl (fun c => nI (rg c)))), (g5, .inl (cI, 16, .inl (fun c => nI (ol c)))), (g6, .inl (cI, 32, .inl (fun c => nI (u c))))] → va_S A st.heap H locs → ∀ (ls : Array Slot), lv_has ls 5 [(0, .ref o0), (1, .int (nI pt)), (2, .int (nI ff)), (3, .int (nI k))] → W pg l en (headSpec w_O_answerTo ({ frames := 1, cells := 0, slots := 0, locals := 22 } : Room)).room st mm ([.ref o0, .int (nI pt), .int (nI ff)] : List Value).toArray bw me co H locs 0 0 (MQ bw (va_Qi (fun (r : Int32) (u : Nat → Nat) => r = nI (ci_a ol (ci_t cc kd lf rg pt (some ff) (cc + gc)) oc)) (fun (u : Nat → Nat) t => wq_B (dC, dI) classes [(cI, .int), (cL, .long)] A [(o0, .inr (4, [.int (nI fl), .long (lN p), .int (nI n), .long (lN vr), .int (nI ir), .long (lN od), .int (nI cc), .ref g1, .int (nI gc), .ref g2, .ref g3, .ref g4, .int (nI oc), .ref g5, .ref g6, .ref g7, .ref g8])), (g2, .inl (cI, 24, .inl (fun c => nI (kd c)))), (g3, .inl (cI, 24, .inl (fun c => nI (lf c)))), (g4, .inl (cI, 24, .inl (fun c => nI (rg c)))), (g5, .inl (cI, 16, .inl (fun c => nI (ol c)))), (g6, .inl (cI, 32, .inl (fun c => nI (u c))))] t) A) ([.ref o0, .int (nI pt), .int (nI ff)] : List Value).toArray st 0 0 A) (F0 mm 2 ls []) := by
    intro j
    induction j with
    | zero =>
      intro k u hj hI H locs hP hD hS ls hl
      refine lv_iload_n hx hb d_O_answerTo_2 rfl (lv_at hl 3 rfl) ?_
      refine lv_aload_n hx hb d_O_answerTo_3 rfl (lv_at hl 0 rfl) ?_
      refine va_get (D := (dC, dI)) (ci := 4) (v := .int (nI cc)) (C := R_O) (T := F_O) (N := 17) hx hb hts in_O hown hK hP 0 rfl rfl 6 (by decide) (hts _ kw_534) (fun _ h9 => h9) rfl d_O_answerTo_4 ?_
      refine lv_aload_n hx hb d_O_answerTo_7 rfl (lv_at hl 0 rfl) ?_
      refine va_get (D := (dC, dI)) (ci := 4) (v := .int (nI gc)) (C := R_O) (T := F_O) (N := 17) hx hb hts in_O hown hK hP 0 rfl rfl 8 (by decide) (hts _ kw_536) (fun _ h9 => h9) rfl d_O_answerTo_8 ?_
      refine lv_iadd hx hb d_O_answerTo_11 ?_
      refine lv_topi (nm_r (show _ = nI (cc + gc) from nI_add cc gc) ?_)
      refine lv_icmp_ge (tgt := 111) hx hb d_O_answerTo_12 (by decide) (fun hc => ?_) (fun hc => ?_)
      · have hkk : k = cc + gc := by omega
        rw [hkk] at hI
        refine lv_iconst (v := nI 0) hx hb d_O_answerTo_111 (by decide) ?_
        refine lv_istore_n (lv' := [(3, .int (nI 0)), (0, .ref o0), (1, .int (nI pt)), (2, .int (nI ff))]) hx hb d_O_answerTo_112 rfl hl (by decide) rfl (fun ls hl => ?_)
        refine lv_iconst (v := nI 0) hx hb d_O_answerTo_113 (by decide) ?_
        refine lv_istore (lv' := [(4, .int (nI 0)), (3, .int (nI 0)), (0, .ref o0), (1, .int (nI pt)), (2, .int (nI ff))]) hx hb d_O_answerTo_114 hl (by decide) rfl (fun ls hl => ?_)
        have hl := lv_sub (l' := [(0, .ref o0), (3, .int (nI 0)), (4, .int (nI 0))]) hl [2, 1, 0] rfl
        exact outs oc 0 u rfl hI H locs hP hD hS ls hl
      · exact absurd ((nI_leI (by omega) (by omega)).mpr (by omega)) hc
    | succ j ih =>
      intro k u hj hI H locs hP hD hS ls hl
      have hkl : k < cc + gc := by omega
      have hgl := ck_line hk hkl
      refine lv_iload_n hx hb d_O_answerTo_2 rfl (lv_at hl 3 rfl) ?_
      refine lv_aload_n hx hb d_O_answerTo_3 rfl (lv_at hl 0 rfl) ?_
      refine va_get (D := (dC, dI)) (ci := 4) (v := .int (nI cc)) (C := R_O) (T := F_O) (N := 17) hx hb hts in_O hown hK hP 0 rfl rfl 6 (by decide) (hts _ kw_534) (fun _ h9 => h9) rfl d_O_answerTo_4 ?_
      refine lv_aload_n hx hb d_O_answerTo_7 rfl (lv_at hl 0 rfl) ?_
      refine va_get (D := (dC, dI)) (ci := 4) (v := .int (nI gc)) (C := R_O) (T := F_O) (N := 17) hx hb hts in_O hown hK hP 0 rfl rfl 8 (by decide) (hts _ kw_536) (fun _ h9 => h9) rfl d_O_answerTo_8 ?_
      refine lv_iadd hx hb d_O_answerTo_11 ?_
      refine lv_topi (nm_r (show _ = nI (cc + gc) from nI_add cc gc) ?_)
      refine lv_icmp_ge (tgt := 111) hx hb d_O_answerTo_12 (by decide) (fun hc => ?_) (fun hc => ?_)
      · exact absurd ((nI_leI (by omega) (by omega)).mp hc) (by omega)
      · by_cases hkc : k < cc
        · obtain ⟨xv, hxv, hxn⟩ := im_neg hkc (by omega)
          refine lv_iload_n hx hb d_O_answerTo_15 rfl (lv_at hl 3 rfl) ?_
          refine lv_aload_n hx hb d_O_answerTo_16 rfl (lv_at hl 0 rfl) ?_
          refine va_get (D := (dC, dI)) (ci := 4) (v := .int (nI cc)) (C := R_O) (T := F_O) (N := 17) hx hb hts in_O hown hK hP 0 rfl rfl 6 (by decide) (hts _ kw_534) (fun _ h9 => h9) rfl d_O_answerTo_17 ?_
          refine lv_isub hx hb d_O_answerTo_20 ?_
          rw [hxv]
          refine lv_istore (lv' := [(4, .int xv), (0, .ref o0), (1, .int (nI pt)), (2, .int (nI ff)), (3, .int (nI k))]) hx hb d_O_answerTo_21 hl (by decide) rfl (fun ls hl => ?_)
          refine lv_aload_n hx hb d_O_answerTo_23 rfl (lv_at hl 1 rfl) ?_
          refine va_get (D := (dC, dI)) (ci := 4) (v := .ref g6) (C := R_O) (T := F_O) (N := 17) hx hb hts in_O hown hK hP 0 rfl rfl 14 (by decide) (hts _ kw_542) (fun _ h9 => h9) rfl d_O_answerTo_24 ?_
          refine lv_iload_n hx hb d_O_answerTo_27 rfl (lv_at hl 4 rfl) ?_
          refine lv_iload hx hb d_O_answerTo_28 (lv_at hl 0 rfl) ?_
          refine lv_if_ge (tgt := 41) hx hb d_O_answerTo_30 (by decide) (fun hc => absurd hc (hxn)) (fun _ => ?_)
          refine lv_iload_n hx hb d_O_answerTo_33 rfl (lv_at hl 2 rfl) ?_
          refine lv_iload_n hx hb d_O_answerTo_34 rfl (lv_at hl 4 rfl) ?_
          refine lv_ishr hx hb d_O_answerTo_35 ?_
          refine lv_iconst (v := nI 1) hx hb d_O_answerTo_36 (by decide) ?_
          refine lv_iand hx hb d_O_answerTo_37 ?_
          refine lv_topi (nm_r (show _ = nI (Bool.toNat (ci_v cc kd lf rg pt (ci_t cc kd lf rg pt (some ff) k) k)) from (isb1 hpt (by omega)).trans (by unfold ci_v; rw [if_pos hkc])) ?_)
          refine lv_goto (tgt := 75) hx hb d_O_answerTo_38 (by decide) ?_
          refine va_iast (D := (dC, dI)) (i := (nI k)) (x := (nI (Bool.toNat (ci_v cc kd lf rg pt (ci_t cc kd lf rg pt (some ff) k) k)))) hx hb hK hP hD hS 5 0 rfl rfl (vp_in_nI (by omega) (by decide)) d_O_answerTo_75 (fun H locs hP hD hS => ?_)
          rw [nI_clamp (by omega), upd_nI] at hP hD
          have hP : va_P (dC, dI) classes [(o0, .inr (4, [.int (nI fl), .long (lN p), .int (nI n), .long (lN vr), .int (nI ir), .long (lN od), .int (nI cc), .ref g1, .int (nI gc), .ref g2, .ref g3, .ref g4, .int (nI oc), .ref g5, .ref g6, .ref g7, .ref g8])), (g2, .inl (cI, 24, .inl (fun c => nI (kd c)))), (g3, .inl (cI, 24, .inl (fun c => nI (lf c)))), (g4, .inl (cI, 24, .inl (fun c => nI (rg c)))), (g5, .inl (cI, 16, .inl (fun c => nI (ol c)))), (g6, .inl (cI, 32, .inl (fun c => nI ((va_up u k (Bool.toNat (ci_v cc kd lf rg pt (ci_t cc kd lf rg pt (some ff) k) k))) c))))] H := hP
          have hD : va_D A [(o0, .inr (4, [.int (nI fl), .long (lN p), .int (nI n), .long (lN vr), .int (nI ir), .long (lN od), .int (nI cc), .ref g1, .int (nI gc), .ref g2, .ref g3, .ref g4, .int (nI oc), .ref g5, .ref g6, .ref g7, .ref g8])), (g2, .inl (cI, 24, .inl (fun c => nI (kd c)))), (g3, .inl (cI, 24, .inl (fun c => nI (lf c)))), (g4, .inl (cI, 24, .inl (fun c => nI (rg c)))), (g5, .inl (cI, 16, .inl (fun c => nI (ol c)))), (g6, .inl (cI, 32, .inl (fun c => nI ((va_up u k (Bool.toNat (ci_v cc kd lf rg pt (ci_t cc kd lf rg pt (some ff) k) k))) c))))] := hD
          refine lv_aload_n hx hb d_O_answerTo_76 rfl (lv_at hl 1 rfl) ?_
          refine va_get (D := (dC, dI)) (ci := 4) (v := .ref g6) (C := R_O) (T := F_O) (N := 17) hx hb hts in_O hown hK hP 0 rfl rfl 14 (by decide) (hts _ kw_542) (fun _ h9 => h9) rfl d_O_answerTo_77 ?_
          refine lv_iload_n hx hb d_O_answerTo_80 rfl (lv_at hl 4 rfl) ?_
          refine lv_iload_n hx hb d_O_answerTo_81 rfl (lv_at hl 3 rfl) ?_
          refine lv_if_lt (tgt := 98) hx hb d_O_answerTo_82 (by decide) (fun hc => absurd hc (nI_nn (by omega))) (fun _ => ?_)
          refine lv_iload_n hx hb d_O_answerTo_85 rfl (lv_at hl 3 rfl) ?_
          refine lv_iconst (v := nI 2) hx hb d_O_answerTo_86 (by decide) ?_
          refine lv_idiv hx hb d_O_answerTo_87 (by decide) ?_
          refine lv_topi (nm_r (show _ = nI (ff / 2) from pk_div (d := 2) (by omega) (by decide) (by decide)) ?_)
          refine lv_iload_n hx hb d_O_answerTo_88 rfl (lv_at hl 4 rfl) ?_
          refine lv_icmp_ne (tgt := 98) hx hb d_O_answerTo_89 (by decide) (fun h5 => ?_) (fun h5 => ?_)
          · have h5 : ¬ ff / 2 = k := fun z => h5 (by rw [z])
            refine lv_aload_n hx hb d_O_answerTo_98 rfl (lv_at hl 1 rfl) ?_
            refine va_get (D := (dC, dI)) (ci := 4) (v := .ref g6) (C := R_O) (T := F_O) (N := 17) hx hb hts in_O hown hK hP 0 rfl rfl 14 (by decide) (hts _ kw_542) (fun _ h9 => h9) rfl d_O_answerTo_99 ?_
            refine lv_iload_n hx hb d_O_answerTo_102 rfl (lv_at hl 4 rfl) ?_
            refine va_iald (D := (dC, dI)) hx hb hK hP 5 0 rfl rfl (vp_in_nI (by omega) (by decide)) d_O_answerTo_103 ?_
            refine lv_topi (nm_r (show _ = nI ((va_up u k (Bool.toNat (ci_v cc kd lf rg pt (ci_t cc kd lf rg pt (some ff) k) k))) k) from congrArg (fun c => nI ((va_up u k (Bool.toNat (ci_v cc kd lf rg pt (ci_t cc kd lf rg pt (some ff) k) k))) c)) (nI_clamp (by omega))) ?_)
            refine lv_topi (nm_r (show _ = nI (Bool.toNat (ci_v cc kd lf rg pt (ci_t cc kd lf rg pt (some ff) k) k)) from by rw [va_up_self]) ?_)
            refine va_iast (D := (dC, dI)) (i := (nI k)) (x := (nI (Bool.toNat (ci_v cc kd lf rg pt (ci_t cc kd lf rg pt (some ff) k) k)))) hx hb hK hP hD hS 5 0 rfl rfl (vp_in_nI (by omega) (by decide)) d_O_answerTo_104 (fun H locs hP hD hS => ?_)
            rw [nI_clamp (by omega), upd_nI] at hP hD
            have hP : va_P (dC, dI) classes [(o0, .inr (4, [.int (nI fl), .long (lN p), .int (nI n), .long (lN vr), .int (nI ir), .long (lN od), .int (nI cc), .ref g1, .int (nI gc), .ref g2, .ref g3, .ref g4, .int (nI oc), .ref g5, .ref g6, .ref g7, .ref g8])), (g2, .inl (cI, 24, .inl (fun c => nI (kd c)))), (g3, .inl (cI, 24, .inl (fun c => nI (lf c)))), (g4, .inl (cI, 24, .inl (fun c => nI (rg c)))), (g5, .inl (cI, 16, .inl (fun c => nI (ol c)))), (g6, .inl (cI, 32, .inl (fun c => nI ((va_up (va_up u k (Bool.toNat (ci_v cc kd lf rg pt (ci_t cc kd lf rg pt (some ff) k) k))) k (Bool.toNat (ci_v cc kd lf rg pt (ci_t cc kd lf rg pt (some ff) k) k))) c))))] H := hP
            have hD : va_D A [(o0, .inr (4, [.int (nI fl), .long (lN p), .int (nI n), .long (lN vr), .int (nI ir), .long (lN od), .int (nI cc), .ref g1, .int (nI gc), .ref g2, .ref g3, .ref g4, .int (nI oc), .ref g5, .ref g6, .ref g7, .ref g8])), (g2, .inl (cI, 24, .inl (fun c => nI (kd c)))), (g3, .inl (cI, 24, .inl (fun c => nI (lf c)))), (g4, .inl (cI, 24, .inl (fun c => nI (rg c)))), (g5, .inl (cI, 16, .inl (fun c => nI (ol c)))), (g6, .inl (cI, 32, .inl (fun c => nI ((va_up (va_up u k (Bool.toNat (ci_v cc kd lf rg pt (ci_t cc kd lf rg pt (some ff) k) k))) k (Bool.toNat (ci_v cc kd lf rg pt (ci_t cc kd lf rg pt (some ff) k) k))) c))))] := hD
            refine lv_iinc (v := nI (k + 1)) (lv' := [(3, .int (nI (k + 1))), (4, .int xv), (0, .ref o0), (1, .int (nI pt)), (2, .int (nI ff))]) hx hb d_O_answerTo_105 hl (k := 4) rfl (nI_1 k) (by decide) rfl (fun ls hl => ?_)
            refine lv_goto (tgt := 2) hx hb d_O_answerTo_108 (by decide) ?_
            have hl := lv_sub (l' := [(0, .ref o0), (1, .int (nI pt)), (2, .int (nI ff)), (3, .int (nI (k + 1)))]) hl [2, 3, 4, 0] rfl
            exact ih (k + 1) (va_up (va_up u k (Bool.toNat (ci_v cc kd lf rg pt (ci_t cc kd lf rg pt (some ff) k) k))) k (Bool.toNat (ci_v cc kd lf rg pt (ci_t cc kd lf rg pt (some ff) k) k))) (by omega) (lt_turn hI (by rw [va_up_self]; exact (ci_s_ne h5).symm) (fun j hj => by rw [va_up_lt hj, va_up_lt hj])) H locs hP hD hS ls hl
          · have h5 : ff / 2 = k := nI_injN (by omega) (by omega) h5
            refine lv_iload_n hx hb d_O_answerTo_92 rfl (lv_at hl 3 rfl) ?_
            refine lv_iconst (v := nI 2) hx hb d_O_answerTo_93 (by decide) ?_
            refine lv_irem hx hb d_O_answerTo_94 (by decide) ?_
            refine lv_topi (nm_r (show _ = nI (ff % 2) from pk_rem (d := 2) (by omega) (by decide) (by decide)) ?_)
            refine lv_goto (tgt := 104) hx hb d_O_answerTo_95 (by decide) ?_
            refine va_iast (D := (dC, dI)) (i := (nI k)) (x := (nI (ff % 2))) hx hb hK hP hD hS 5 0 rfl rfl (vp_in_nI (by omega) (by decide)) d_O_answerTo_104 (fun H locs hP hD hS => ?_)
            rw [nI_clamp (by omega), upd_nI] at hP hD
            have hP : va_P (dC, dI) classes [(o0, .inr (4, [.int (nI fl), .long (lN p), .int (nI n), .long (lN vr), .int (nI ir), .long (lN od), .int (nI cc), .ref g1, .int (nI gc), .ref g2, .ref g3, .ref g4, .int (nI oc), .ref g5, .ref g6, .ref g7, .ref g8])), (g2, .inl (cI, 24, .inl (fun c => nI (kd c)))), (g3, .inl (cI, 24, .inl (fun c => nI (lf c)))), (g4, .inl (cI, 24, .inl (fun c => nI (rg c)))), (g5, .inl (cI, 16, .inl (fun c => nI (ol c)))), (g6, .inl (cI, 32, .inl (fun c => nI ((va_up (va_up u k (Bool.toNat (ci_v cc kd lf rg pt (ci_t cc kd lf rg pt (some ff) k) k))) k (ff % 2)) c))))] H := hP
            have hD : va_D A [(o0, .inr (4, [.int (nI fl), .long (lN p), .int (nI n), .long (lN vr), .int (nI ir), .long (lN od), .int (nI cc), .ref g1, .int (nI gc), .ref g2, .ref g3, .ref g4, .int (nI oc), .ref g5, .ref g6, .ref g7, .ref g8])), (g2, .inl (cI, 24, .inl (fun c => nI (kd c)))), (g3, .inl (cI, 24, .inl (fun c => nI (lf c)))), (g4, .inl (cI, 24, .inl (fun c => nI (rg c)))), (g5, .inl (cI, 16, .inl (fun c => nI (ol c)))), (g6, .inl (cI, 32, .inl (fun c => nI ((va_up (va_up u k (Bool.toNat (ci_v cc kd lf rg pt (ci_t cc kd lf rg pt (some ff) k) k))) k (ff % 2)) c))))] := hD
            refine lv_iinc (v := nI (k + 1)) (lv' := [(3, .int (nI (k + 1))), (4, .int xv), (0, .ref o0), (1, .int (nI pt)), (2, .int (nI ff))]) hx hb d_O_answerTo_105 hl (k := 4) rfl (nI_1 k) (by decide) rfl (fun ls hl => ?_)
            refine lv_goto (tgt := 2) hx hb d_O_answerTo_108 (by decide) ?_
            have hl := lv_sub (l' := [(0, .ref o0), (1, .int (nI pt)), (2, .int (nI ff)), (3, .int (nI (k + 1)))]) hl [2, 3, 4, 0] rfl
            exact ih (k + 1) (va_up (va_up u k (Bool.toNat (ci_v cc kd lf rg pt (ci_t cc kd lf rg pt (some ff) k) k))) k (ff % 2)) (by omega) (lt_turn hI (by rw [va_up_self]; exact ci_s_eq h5) (fun j hj => by rw [va_up_lt hj, va_up_lt hj])) H locs hP hD hS ls hl
        · obtain ⟨hl1, hl2⟩ := hgl (by omega)
          obtain ⟨hk5, -, -⟩ := hk.2.2.2.1 (k - cc) (by omega)
          refine lv_iload_n hx hb d_O_answerTo_15 rfl (lv_at hl 3 rfl) ?_
          refine lv_aload_n hx hb d_O_answerTo_16 rfl (lv_at hl 0 rfl) ?_
          refine va_get (D := (dC, dI)) (ci := 4) (v := .int (nI cc)) (C := R_O) (T := F_O) (N := 17) hx hb hts in_O hown hK hP 0 rfl rfl 6 (by decide) (hts _ kw_534) (fun _ h9 => h9) rfl d_O_answerTo_17 ?_
          refine lv_isub hx hb d_O_answerTo_20 ?_
          refine lv_topi (nm_r (show _ = nI (k - cc) from pk_sub (by omega)) ?_)
          refine lv_istore (lv' := [(4, .int (nI (k - cc))), (0, .ref o0), (1, .int (nI pt)), (2, .int (nI ff)), (3, .int (nI k))]) hx hb d_O_answerTo_21 hl (by decide) rfl (fun ls hl => ?_)
          refine lv_aload_n hx hb d_O_answerTo_23 rfl (lv_at hl 1 rfl) ?_
          refine va_get (D := (dC, dI)) (ci := 4) (v := .ref g6) (C := R_O) (T := F_O) (N := 17) hx hb hts in_O hown hK hP 0 rfl rfl 14 (by decide) (hts _ kw_542) (fun _ h9 => h9) rfl d_O_answerTo_24 ?_
          refine lv_iload_n hx hb d_O_answerTo_27 rfl (lv_at hl 4 rfl) ?_
          refine lv_iload hx hb d_O_answerTo_28 (lv_at hl 0 rfl) ?_
          refine lv_if_ge (tgt := 41) hx hb d_O_answerTo_30 (by decide) (fun _ => ?_) (fun hc => absurd hc (fun z => z (nI_ge0 (by omega))))
          refine lv_aload_n hx hb d_O_answerTo_41 rfl (lv_at hl 1 rfl) ?_
          refine va_get (D := (dC, dI)) (ci := 4) (v := .ref g2) (C := R_O) (T := F_O) (N := 17) hx hb hts in_O hown hK hP 0 rfl rfl 9 (by decide) (hts _ kw_537) (fun _ h9 => h9) rfl d_O_answerTo_42 ?_
          refine lv_iload hx hb d_O_answerTo_45 (lv_at hl 0 rfl) ?_
          refine va_iald (D := (dC, dI)) hx hb hK hP 1 0 rfl rfl (vp_in_nI (by omega) (by decide)) d_O_answerTo_47 ?_
          refine lv_topi (nm_r (show _ = nI (kd (k - cc)) from congrArg (fun c => nI (kd c)) (nI_clamp (by omega))) ?_)
          refine lv_aload_n hx hb d_O_answerTo_48 rfl (lv_at hl 1 rfl) ?_
          refine va_get (D := (dC, dI)) (ci := 4) (v := .ref g6) (C := R_O) (T := F_O) (N := 17) hx hb hts in_O hown hK hP 0 rfl rfl 14 (by decide) (hts _ kw_542) (fun _ h9 => h9) rfl d_O_answerTo_49 ?_
          refine lv_aload_n hx hb d_O_answerTo_52 rfl (lv_at hl 1 rfl) ?_
          refine va_get (D := (dC, dI)) (ci := 4) (v := .ref g3) (C := R_O) (T := F_O) (N := 17) hx hb hts in_O hown hK hP 0 rfl rfl 10 (by decide) (hts _ kw_538) (fun _ h9 => h9) rfl d_O_answerTo_53 ?_
          refine lv_iload hx hb d_O_answerTo_56 (lv_at hl 0 rfl) ?_
          refine va_iald (D := (dC, dI)) hx hb hK hP 2 0 rfl rfl (vp_in_nI (by omega) (by decide)) d_O_answerTo_58 ?_
          refine lv_topi (nm_r (show _ = nI (lf (k - cc)) from congrArg (fun c => nI (lf c)) (nI_clamp (by omega))) ?_)
          refine va_iald (D := (dC, dI)) hx hb hK hP 5 0 rfl rfl (vp_in_nI (by omega) (by decide)) d_O_answerTo_59 ?_
          refine lv_topi (nm_r (show _ = nI (u (lf (k - cc))) from congrArg (fun c => nI (u c)) (nI_clamp (by omega))) ?_)
          refine lv_topi (nm_r (show _ = nI (Bool.toNat (ci_t cc kd lf rg pt (some ff) k (lf (k - cc)))) from by rw [hI _ hl1]) ?_)
          refine lv_aload_n hx hb d_O_answerTo_60 rfl (lv_at hl 1 rfl) ?_
          refine va_get (D := (dC, dI)) (ci := 4) (v := .ref g6) (C := R_O) (T := F_O) (N := 17) hx hb hts in_O hown hK hP 0 rfl rfl 14 (by decide) (hts _ kw_542) (fun _ h9 => h9) rfl d_O_answerTo_61 ?_
          refine lv_aload_n hx hb d_O_answerTo_64 rfl (lv_at hl 1 rfl) ?_
          refine va_get (D := (dC, dI)) (ci := 4) (v := .ref g4) (C := R_O) (T := F_O) (N := 17) hx hb hts in_O hown hK hP 0 rfl rfl 11 (by decide) (hts _ kw_539) (fun _ h9 => h9) rfl d_O_answerTo_65 ?_
          refine lv_iload hx hb d_O_answerTo_68 (lv_at hl 0 rfl) ?_
          refine va_iald (D := (dC, dI)) hx hb hK hP 3 0 rfl rfl (vp_in_nI (by omega) (by decide)) d_O_answerTo_70 ?_
          refine lv_topi (nm_r (show _ = nI (rg (k - cc)) from congrArg (fun c => nI (rg c)) (nI_clamp (by omega))) ?_)
          refine va_iald (D := (dC, dI)) hx hb hK hP 5 0 rfl rfl (vp_in_nI (by omega) (by decide)) d_O_answerTo_71 ?_
          refine lv_topi (nm_r (show _ = nI (u (rg (k - cc))) from congrArg (fun c => nI (u c)) (nI_clamp (by omega))) ?_)
          refine lv_topi (nm_r (show _ = nI (Bool.toNat (ci_t cc kd lf rg pt (some ff) k (rg (k - cc)))) from by rw [hI _ hl2]) ?_)
          refine vp_callSi (va_Run.run (va_runS (As := [.int (nI (kd (k - cc))), .int (nI (Bool.toNat (ci_t cc kd lf rg pt (some ff) k (lf (k - cc))))), .int (nI (Bool.toNat (ci_t cc kd lf rg pt (some ff) k (rg (k - cc)))))]) (rest := [.int (nI k), .ref g6]) ⟨hx, hb, hml, hown, hts⟩ (c_O_worth l (kd (k - cc)) _ _ hk5) (va_cwS 3 hts (gi_S kw_693 kw_694 kw_5 gi_O_worth) rfl rfl rfl ⟨by decide, by decide, by decide⟩ ⟨Nat.le_of_ble_eq_true rfl, Nat.le_of_ble_eq_true rfl⟩) wq_preS0 rfl rfl hl.1 rfl (lv_room (Nat.le_of_ble_eq_true rfl)) d_O_answerTo_72 ⟨Nat.le_of_ble_eq_true rfl, Nat.le_of_ble_eq_true rfl⟩)) (fun r hq => ?_)
          have hq : r = nI (Bool.toNat (ci_v cc kd lf rg pt (ci_t cc kd lf rg pt (some ff) k) k)) := by
            rw [hq]
            unfold ci_v
            rw [if_neg hkc]
          subst hq
          refine va_iast (D := (dC, dI)) (i := (nI k)) (x := (nI (Bool.toNat (ci_v cc kd lf rg pt (ci_t cc kd lf rg pt (some ff) k) k)))) hx hb hK hP hD hS 5 0 rfl rfl (vp_in_nI (by omega) (by decide)) d_O_answerTo_75 (fun H locs hP hD hS => ?_)
          rw [nI_clamp (by omega), upd_nI] at hP hD
          have hP : va_P (dC, dI) classes [(o0, .inr (4, [.int (nI fl), .long (lN p), .int (nI n), .long (lN vr), .int (nI ir), .long (lN od), .int (nI cc), .ref g1, .int (nI gc), .ref g2, .ref g3, .ref g4, .int (nI oc), .ref g5, .ref g6, .ref g7, .ref g8])), (g2, .inl (cI, 24, .inl (fun c => nI (kd c)))), (g3, .inl (cI, 24, .inl (fun c => nI (lf c)))), (g4, .inl (cI, 24, .inl (fun c => nI (rg c)))), (g5, .inl (cI, 16, .inl (fun c => nI (ol c)))), (g6, .inl (cI, 32, .inl (fun c => nI ((va_up u k (Bool.toNat (ci_v cc kd lf rg pt (ci_t cc kd lf rg pt (some ff) k) k))) c))))] H := hP
          have hD : va_D A [(o0, .inr (4, [.int (nI fl), .long (lN p), .int (nI n), .long (lN vr), .int (nI ir), .long (lN od), .int (nI cc), .ref g1, .int (nI gc), .ref g2, .ref g3, .ref g4, .int (nI oc), .ref g5, .ref g6, .ref g7, .ref g8])), (g2, .inl (cI, 24, .inl (fun c => nI (kd c)))), (g3, .inl (cI, 24, .inl (fun c => nI (lf c)))), (g4, .inl (cI, 24, .inl (fun c => nI (rg c)))), (g5, .inl (cI, 16, .inl (fun c => nI (ol c)))), (g6, .inl (cI, 32, .inl (fun c => nI ((va_up u k (Bool.toNat (ci_v cc kd lf rg pt (ci_t cc kd lf rg pt (some ff) k) k))) c))))] := hD
          refine lv_aload_n hx hb d_O_answerTo_76 rfl (lv_at hl 1 rfl) ?_
          refine va_get (D := (dC, dI)) (ci := 4) (v := .ref g6) (C := R_O) (T := F_O) (N := 17) hx hb hts in_O hown hK hP 0 rfl rfl 14 (by decide) (hts _ kw_542) (fun _ h9 => h9) rfl d_O_answerTo_77 ?_
          refine lv_iload_n hx hb d_O_answerTo_80 rfl (lv_at hl 4 rfl) ?_
          refine lv_iload_n hx hb d_O_answerTo_81 rfl (lv_at hl 3 rfl) ?_
          refine lv_if_lt (tgt := 98) hx hb d_O_answerTo_82 (by decide) (fun hc => absurd hc (nI_nn (by omega))) (fun _ => ?_)
          refine lv_iload_n hx hb d_O_answerTo_85 rfl (lv_at hl 3 rfl) ?_
          refine lv_iconst (v := nI 2) hx hb d_O_answerTo_86 (by decide) ?_
          refine lv_idiv hx hb d_O_answerTo_87 (by decide) ?_
          refine lv_topi (nm_r (show _ = nI (ff / 2) from pk_div (d := 2) (by omega) (by decide) (by decide)) ?_)
          refine lv_iload_n hx hb d_O_answerTo_88 rfl (lv_at hl 4 rfl) ?_
          refine lv_icmp_ne (tgt := 98) hx hb d_O_answerTo_89 (by decide) (fun h5 => ?_) (fun h5 => ?_)
          · have h5 : ¬ ff / 2 = k := fun z => h5 (by rw [z])
            refine lv_aload_n hx hb d_O_answerTo_98 rfl (lv_at hl 1 rfl) ?_
            refine va_get (D := (dC, dI)) (ci := 4) (v := .ref g6) (C := R_O) (T := F_O) (N := 17) hx hb hts in_O hown hK hP 0 rfl rfl 14 (by decide) (hts _ kw_542) (fun _ h9 => h9) rfl d_O_answerTo_99 ?_
            refine lv_iload_n hx hb d_O_answerTo_102 rfl (lv_at hl 4 rfl) ?_
            refine va_iald (D := (dC, dI)) hx hb hK hP 5 0 rfl rfl (vp_in_nI (by omega) (by decide)) d_O_answerTo_103 ?_
            refine lv_topi (nm_r (show _ = nI ((va_up u k (Bool.toNat (ci_v cc kd lf rg pt (ci_t cc kd lf rg pt (some ff) k) k))) k) from congrArg (fun c => nI ((va_up u k (Bool.toNat (ci_v cc kd lf rg pt (ci_t cc kd lf rg pt (some ff) k) k))) c)) (nI_clamp (by omega))) ?_)
            refine lv_topi (nm_r (show _ = nI (Bool.toNat (ci_v cc kd lf rg pt (ci_t cc kd lf rg pt (some ff) k) k)) from by rw [va_up_self]) ?_)
            refine va_iast (D := (dC, dI)) (i := (nI k)) (x := (nI (Bool.toNat (ci_v cc kd lf rg pt (ci_t cc kd lf rg pt (some ff) k) k)))) hx hb hK hP hD hS 5 0 rfl rfl (vp_in_nI (by omega) (by decide)) d_O_answerTo_104 (fun H locs hP hD hS => ?_)
            rw [nI_clamp (by omega), upd_nI] at hP hD
            have hP : va_P (dC, dI) classes [(o0, .inr (4, [.int (nI fl), .long (lN p), .int (nI n), .long (lN vr), .int (nI ir), .long (lN od), .int (nI cc), .ref g1, .int (nI gc), .ref g2, .ref g3, .ref g4, .int (nI oc), .ref g5, .ref g6, .ref g7, .ref g8])), (g2, .inl (cI, 24, .inl (fun c => nI (kd c)))), (g3, .inl (cI, 24, .inl (fun c => nI (lf c)))), (g4, .inl (cI, 24, .inl (fun c => nI (rg c)))), (g5, .inl (cI, 16, .inl (fun c => nI (ol c)))), (g6, .inl (cI, 32, .inl (fun c => nI ((va_up (va_up u k (Bool.toNat (ci_v cc kd lf rg pt (ci_t cc kd lf rg pt (some ff) k) k))) k (Bool.toNat (ci_v cc kd lf rg pt (ci_t cc kd lf rg pt (some ff) k) k))) c))))] H := hP
            have hD : va_D A [(o0, .inr (4, [.int (nI fl), .long (lN p), .int (nI n), .long (lN vr), .int (nI ir), .long (lN od), .int (nI cc), .ref g1, .int (nI gc), .ref g2, .ref g3, .ref g4, .int (nI oc), .ref g5, .ref g6, .ref g7, .ref g8])), (g2, .inl (cI, 24, .inl (fun c => nI (kd c)))), (g3, .inl (cI, 24, .inl (fun c => nI (lf c)))), (g4, .inl (cI, 24, .inl (fun c => nI (rg c)))), (g5, .inl (cI, 16, .inl (fun c => nI (ol c)))), (g6, .inl (cI, 32, .inl (fun c => nI ((va_up (va_up u k (Bool.toNat (ci_v cc kd lf rg pt (ci_t cc kd lf rg pt (some ff) k) k))) k (Bool.toNat (ci_v cc kd lf rg pt (ci_t cc kd lf rg pt (some ff) k) k))) c))))] := hD
            refine lv_iinc (v := nI (k + 1)) (lv' := [(3, .int (nI (k + 1))), (4, .int (nI (k - cc))), (0, .ref o0), (1, .int (nI pt)), (2, .int (nI ff))]) hx hb d_O_answerTo_105 hl (k := 4) rfl (nI_1 k) (by decide) rfl (fun ls hl => ?_)
            refine lv_goto (tgt := 2) hx hb d_O_answerTo_108 (by decide) ?_
            have hl := lv_sub (l' := [(0, .ref o0), (1, .int (nI pt)), (2, .int (nI ff)), (3, .int (nI (k + 1)))]) hl [2, 3, 4, 0] rfl
            exact ih (k + 1) (va_up (va_up u k (Bool.toNat (ci_v cc kd lf rg pt (ci_t cc kd lf rg pt (some ff) k) k))) k (Bool.toNat (ci_v cc kd lf rg pt (ci_t cc kd lf rg pt (some ff) k) k))) (by omega) (lt_turn hI (by rw [va_up_self]; exact (ci_s_ne h5).symm) (fun j hj => by rw [va_up_lt hj, va_up_lt hj])) H locs hP hD hS ls hl
          · have h5 : ff / 2 = k := nI_injN (by omega) (by omega) h5
            refine lv_iload_n hx hb d_O_answerTo_92 rfl (lv_at hl 3 rfl) ?_
            refine lv_iconst (v := nI 2) hx hb d_O_answerTo_93 (by decide) ?_
            refine lv_irem hx hb d_O_answerTo_94 (by decide) ?_
            refine lv_topi (nm_r (show _ = nI (ff % 2) from pk_rem (d := 2) (by omega) (by decide) (by decide)) ?_)
            refine lv_goto (tgt := 104) hx hb d_O_answerTo_95 (by decide) ?_
            refine va_iast (D := (dC, dI)) (i := (nI k)) (x := (nI (ff % 2))) hx hb hK hP hD hS 5 0 rfl rfl (vp_in_nI (by omega) (by decide)) d_O_answerTo_104 (fun H locs hP hD hS => ?_)
            rw [nI_clamp (by omega), upd_nI] at hP hD
            have hP : va_P (dC, dI) classes [(o0, .inr (4, [.int (nI fl), .long (lN p), .int (nI n), .long (lN vr), .int (nI ir), .long (lN od), .int (nI cc), .ref g1, .int (nI gc), .ref g2, .ref g3, .ref g4, .int (nI oc), .ref g5, .ref g6, .ref g7, .ref g8])), (g2, .inl (cI, 24, .inl (fun c => nI (kd c)))), (g3, .inl (cI, 24, .inl (fun c => nI (lf c)))), (g4, .inl (cI, 24, .inl (fun c => nI (rg c)))), (g5, .inl (cI, 16, .inl (fun c => nI (ol c)))), (g6, .inl (cI, 32, .inl (fun c => nI ((va_up (va_up u k (Bool.toNat (ci_v cc kd lf rg pt (ci_t cc kd lf rg pt (some ff) k) k))) k (ff % 2)) c))))] H := hP
            have hD : va_D A [(o0, .inr (4, [.int (nI fl), .long (lN p), .int (nI n), .long (lN vr), .int (nI ir), .long (lN od), .int (nI cc), .ref g1, .int (nI gc), .ref g2, .ref g3, .ref g4, .int (nI oc), .ref g5, .ref g6, .ref g7, .ref g8])), (g2, .inl (cI, 24, .inl (fun c => nI (kd c)))), (g3, .inl (cI, 24, .inl (fun c => nI (lf c)))), (g4, .inl (cI, 24, .inl (fun c => nI (rg c)))), (g5, .inl (cI, 16, .inl (fun c => nI (ol c)))), (g6, .inl (cI, 32, .inl (fun c => nI ((va_up (va_up u k (Bool.toNat (ci_v cc kd lf rg pt (ci_t cc kd lf rg pt (some ff) k) k))) k (ff % 2)) c))))] := hD
            refine lv_iinc (v := nI (k + 1)) (lv' := [(3, .int (nI (k + 1))), (4, .int (nI (k - cc))), (0, .ref o0), (1, .int (nI pt)), (2, .int (nI ff))]) hx hb d_O_answerTo_105 hl (k := 4) rfl (nI_1 k) (by decide) rfl (fun ls hl => ?_)
            refine lv_goto (tgt := 2) hx hb d_O_answerTo_108 (by decide) ?_
            have hl := lv_sub (l' := [(0, .ref o0), (1, .int (nI pt)), (2, .int (nI ff)), (3, .int (nI (k + 1)))]) hl [2, 3, 4, 0] rfl
            exact ih (k + 1) (va_up (va_up u k (Bool.toNat (ci_v cc kd lf rg pt (ci_t cc kd lf rg pt (some ff) k) k))) k (ff % 2)) (by omega) (lt_turn hI (by rw [va_up_self]; exact ci_s_eq h5) (fun j hj => by rw [va_up_lt hj, va_up_lt hj])) H locs hP hD hS ls hl
  refine lv_iconst (v := nI 0) hx hb d_O_answerTo_0 (by decide) ?_
  refine lv_istore_n (lv' := [(3, .int (nI 0)), (0, .ref o0), (1, .int (nI pt)), (2, .int (nI ff))]) hx hb d_O_answerTo_1 rfl hl (by decide) rfl (fun ls hl => ?_)
  have hl := lv_sub (l' := [(0, .ref o0), (1, .int (nI pt)), (2, .int (nI ff)), (3, .int (nI 0))]) hl [1, 2, 3, 0] rfl
  exact lines (cc + gc) 0 ln rfl (fun j hj => absurd hj (Nat.not_lt_zero j)) _ _ hP hD hS ls hl
