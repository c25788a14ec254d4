/-! contracts of the constructors; laid by a program -/
def zf : Nat → Nat := fun _ => 0
section WN
variable {p : Program} {l : Launch} {e : Env} {R : Room} {s : State} {m : MethodId} {args : Array Value} {below : List Frame} {meth : Method} {c : Code} {H H0 : Heap} {locs : List Loc} {cells slots pc : Nat} {Q : State → Prop} {cc : ByteArray}
variable {ls : Array Slot} {rest : List Value} {D : va_G} {cl : List vw_C} {A : Nat → Prop} {ws : va_W} {cI cL : ClassId}
theorem wq_obj (hexec : p.tables.exec = Jvm.exec) (hb : c.code = cc) {own : String} (hown : s.vm.findClass own = some m.cls) {idx : Nat} (hlink : (Cond.methodLink own idx Lib.objectInit).before args s = true) (hinst : (Cond.instanceMethod Lib.objectInit).before args s = true) (hcode : (Cond.code Lib.objectInit ⟨#[0xb1]⟩ 1 none).before args s = true)
    (hsize : ls.size = c.maxLocals) {a : Nat} (hd : decode cc pc = .ok (.invokespecial idx, 3)) (hframes : 1 ≤ R.frames) (hlocals : 2 * (F0 m pc ls (.ref a :: rest)).monitorRoom + (rest.map fun v => v.category).sum + 12 ≤ R.locals)
    (kk : W p l e R s m args below meth c H locs cells slots Q (F0 m (pc + 3) ls rest)) : W p l e R s m args below meth c H locs cells slots Q (F0 m pc ls (.ref a :: rest)) :=
  W.objInit hexec hb hown hlink hinst hcode rfl hsize rfl hd hframes hlocals kk
theorem wq_newI (hexec : p.tables.exec = Jvm.exec) (hb : c.code = cc) (harr : (Cond.arrayClass .int).before args s = true) (hK : va_K D cl [(cI, .int), (cL, .long)] s) (hP : va_P D cl ws H) (hD : va_D A ws) (hS : va_S A H0 H locs) (hA : ∀ q, H0.size ≤ q → A q)
    {n : Int32} {N : Nat} (hn : ¬ n < 0) (hN : n.toNatClampNeg = N) (hbytes : N * componentBytes .int ≤ 536870912) (hcells : cells + 1 ≤ R.cells) (hslots : slots + N ≤ R.slots) (hdg : decode cc pc = .ok (.newarray .int, 2))
    (kk : ∀ (q : Nat) (H1 : Heap), va_P D cl (ws ++ [(q, .inl (cI, N, .inl (fun c => nI (zf c))))]) H1 → va_D A (ws ++ [(q, .inl (cI, N, .inl (fun c => nI (zf c))))]) → va_S A H0 H1 locs →
      W p l e R s m args below meth c H1 locs (cells + 1) (slots + N) Q (F0 m (pc + 2) ls (.ref q :: rest))) : W p l e R s m args below meth c H locs cells slots Q (F0 m pc ls (.int n :: rest)) := by
  refine va_newa (atype := .int) (ty := .int) (a0 := (N, .inl (fun c => nI (zf c)))) hexec hb harr rfl hK hP hD hS hA (fun _ => rfl) hn hN hbytes hcells hslots hdg (fun q cA H1 hK2 hP2 hD2 hS2 => ?_)
  have e1 := (hK2.2 2 (cA, .int) rfl).2
  have e2 := (hK.2 0 (cI, .int) rfl).2
  cases Option.some.inj (e1.symm.trans e2)
  exact kk q H1 hP2 hD2 hS2
theorem wq_newL (hexec : p.tables.exec = Jvm.exec) (hb : c.code = cc) (harr : (Cond.arrayClass .long).before args s = true) (hK : va_K D cl [(cI, .int), (cL, .long)] s) (hP : va_P D cl ws H) (hD : va_D A ws) (hS : va_S A H0 H locs) (hA : ∀ q, H0.size ≤ q → A q)
    {n : Int32} {N : Nat} (hn : ¬ n < 0) (hN : n.toNatClampNeg = N) (hbytes : N * componentBytes .long ≤ 536870912) (hcells : cells + 1 ≤ R.cells) (hslots : slots + N ≤ R.slots) (hdg : decode cc pc = .ok (.newarray .long, 2))
    (kk : ∀ (q : Nat) (H1 : Heap), va_P D cl (ws ++ [(q, .inl (cL, N, .inr (.inl (fun c => lN (zf c)))))]) H1 → va_D A (ws ++ [(q, .inl (cL, N, .inr (.inl (fun c => lN (zf c)))))]) → va_S A H0 H1 locs →
      W p l e R s m args below meth c H1 locs (cells + 1) (slots + N) Q (F0 m (pc + 2) ls (.ref q :: rest))) : W p l e R s m args below meth c H locs cells slots Q (F0 m pc ls (.int n :: rest)) := by
  refine va_newa (atype := .long) (ty := .long) (a0 := (N, .inr (.inl (fun c => lN (zf c))))) hexec hb harr rfl hK hP hD hS hA (fun _ => rfl) hn hN hbytes hcells hslots hdg (fun q cA H1 hK2 hP2 hD2 hS2 => ?_)
  have e1 := (hK2.2 2 (cA, .long) rfl).2
  have e2 := (hK.2 1 (cL, .long) rfl).2
  cases Option.some.inj (e1.symm.trans e2)
  exact kk q H1 hP2 hD2 hS2
end WN
set_option maxHeartbeats 4000000 in
set_option maxRecDepth 100000 in
theorem c_M_init (l : Launch) (dC : Nat → ClassId) (dI : Nat → Nat → Nat) (cI cL : ClassId) (sz : Nat) (h0 : Nat) : Met l y_M_init w_M_init ({ frames := 1, cells := 0, slots := 0, locals := 20 } : Room) (va_Pc [.ref h0] (wq_W (dC, dI) classes [(h0, .inr (1, [.long (lN 0), .int (nI 0), .long (lN 0)]))] [(cI, .int), (cL, .long)] sz)) (va_Qv (fun (u : Unit) => True) (fun (u : Unit) t => wq_B (dC, dI) classes [(cI, .int), (cL, .long)] (va_A [(h0, .inr (1, [.long (lN 0), .int (nI 0), .long (lN 0)]))] sz) [(h0, .inr (1, [.long (lN 3), .int (nI 1), .long (lN 1)]))] t) (va_A [(h0, .inr (1, [.long (lN 0), .int (nI 0), .long (lN 0)]))] sz)) 0 0 (va_A [(h0, .inr (1, [.long (lN 0), .int (nI 0), .long (lN 0)]))] sz) := by
  refine Met.ofW (cc := b_M_init) (maxL := 1) (ret := (Option.none : Option Jvm.ClassFile.FieldType)) (by decide) rfl ?_
  intro pg en st mm ar bw me co s₁ B hml hv
  obtain ⟨rfl, hsz, hP, hK, hD0, hN⟩ := hv
  have hx := B.exec
  have hb := B.bytes
  have hr := B.returns
  have hlocks := B.notSynchronized
  have hts0 := atoms_spec (ws := w_M_init) B.pre
  have hts : ∀ w ∈ gw, w.before _ st = true := fun w h => hts0 w (List.mem_cons_of_mem _ h)
  have hown : st.vm.findClass R_M = some mm.cls := findClass_of_methodNamed B.named
  have hin : me.name = "<init>" := (name_of_methodNamed B.named B.method).1
  subst hsz
  have hD := hD0.self (sz := st.heap.size)
  generalize hAe : va_A [(h0, .inr (1, [.long (lN 0), .int (nI 0), .long (lN 0)]))] st.heap.size = A at hD ⊢
  have hA : ∀ q : Nat, st.heap.size ≤ q → A q := fun q h => by rw [← hAe]; exact Or.inr h
  have hS : va_S A st.heap st.heap [] := va_S.rf
  have hl := lv_entry ([.ref h0]) (n := 1) (Nat.le_of_ble_eq_true rfl)
  rw [lg_entry_eq]
  generalize (lg_sl ([.ref h0]) ++ List.replicate (1 - (lg_sl ([.ref h0])).length) Slot.unset).toArray = ls at hl ⊢
  have hl : lv_has ls 1 [(0, .ref h0)] := hl
  refine lv_aload_n hx hb d_M_init_0 rfl (lv_at hl 0 rfl) ?_
  refine wq_obj hx hb hown (hts _ kw_27) (hts _ kw_20) (hts _ kw_21) (hl.1.trans hml.symm) d_M_init_1 (Nat.le_of_ble_eq_true rfl) (Nat.le_of_ble_eq_true rfl) ?_
  refine lv_aload_n hx hb d_M_init_4 rfl (lv_at hl 0 rfl) ?_
  refine lv_ldc2 (v := lN 3) hx hb hown (hts _ kw_28) d_M_init_5 ?_
  refine va_put (D := (dC, dI)) (ci := 1) (v := .long (lN 3)) (ty := .long) (C := R_M) (T := F_M) (N := 3) hx hb hts in_M t_M t_M_ok n_M hown hK hP hD hS 0 rfl rfl 0 (by decide) (hts _ kw_29) (fun _ h9 => h9) rfl (by decide +kernel) rfl rfl (Nat.le_of_ble_eq_true rfl) d_M_init_8 (fun H locs hP hD hS => ?_)
  have hP : va_P (dC, dI) classes [(h0, .inr (1, [.long (lN 3), .int (nI 0), .long (lN 0)]))] H := hP
  have hD : va_D A [(h0, .inr (1, [.long (lN 3), .int (nI 0), .long (lN 0)]))] := hD
  refine lv_aload_n hx hb d_M_init_11 rfl (lv_at hl 0 rfl) ?_
  refine lv_iconst (v := nI 1) hx hb d_M_init_12 (by decide) ?_
  refine va_put (D := (dC, dI)) (ci := 1) (v := .int (nI 1)) (ty := .int) (C := R_M) (T := F_M) (N := 3) hx hb hts in_M t_M t_M_ok n_M hown hK hP hD hS 0 rfl rfl 1 (by decide) (hts _ kw_31) (fun _ h9 => h9) rfl (by decide +kernel) rfl rfl (Nat.le_of_ble_eq_true rfl) d_M_init_13 (fun H locs hP hD hS => ?_)
  have hP : va_P (dC, dI) classes [(h0, .inr (1, [.long (lN 3), .int (nI 1), .long (lN 0)]))] H := hP
  have hD : va_D A [(h0, .inr (1, [.long (lN 3), .int (nI 1), .long (lN 0)]))] := hD
  refine lv_aload_n hx hb d_M_init_16 rfl (lv_at hl 0 rfl) ?_
  refine lv_lconst (v := lN 1) hx hb d_M_init_17 (by decide) ?_
  refine va_put (D := (dC, dI)) (ci := 1) (v := .long (lN 1)) (ty := .long) (C := R_M) (T := F_M) (N := 3) hx hb hts in_M t_M t_M_ok n_M hown hK hP hD hS 0 rfl rfl 2 (by decide) (hts _ kw_34) (fun _ h9 => h9) rfl (by decide +kernel) rfl rfl (Nat.le_of_ble_eq_true rfl) d_M_init_18 (fun H locs hP hD hS => ?_)
  have hP : va_P (dC, dI) classes [(h0, .inr (1, [.long (lN 3), .int (nI 1), .long (lN 1)]))] H := hP
  have hD : va_D A [(h0, .inr (1, [.long (lN 3), .int (nI 1), .long (lN 1)]))] := hD
  have hP := hP.sub (ws' := [(h0, .inr (1, [.long (lN 3), .int (nI 1), .long (lN 1)]))]) [0] rfl
  have hD := hD.sub (ws' := [(h0, .inr (1, [.long (lN 3), .int (nI 1), .long (lN 1)]))]) [0] (by decide) rfl
  exact W.vret hx hb hr (fun t9 ht hW => ⟨⟨(), rfl, trivial, by rw [ht]; exact hP, va_K.moved hW.alike hK, hD⟩, hS.F ht⟩) hS.2.2 d_M_init_21
set_option maxHeartbeats 4000000 in
set_option maxRecDepth 100000 in
theorem c_D_init (l : Launch) (dC : Nat → ClassId) (dI : Nat → Nat → Nat) (cI cL : ClassId) (sz : Nat) (h0 : Nat) : Met l y_D_init w_D_init ({ frames := 1, cells := 1, slots := 33, locals := 20 } : Room) (va_Pc [.ref h0] (wq_W (dC, dI) classes [(h0, .inr (3, [.null, .long (lN 0)]))] [(cI, .int), (cL, .long)] sz)) (va_Qv (fun (u : Nat) => True) (fun (u : Nat) t => wq_B (dC, dI) classes [(cI, .int), (cL, .long)] (va_A [(h0, .inr (3, [.null, .long (lN 0)]))] sz) [(h0, .inr (3, [.ref u, .long (lN 0)])), (u, .inl (cL, 33, .inr (.inl (fun c => lN (zf c)))))] t) (va_A [(h0, .inr (3, [.null, .long (lN 0)]))] sz)) 1 33 (va_A [(h0, .inr (3, [.null, .long (lN 0)]))] sz) := by
  refine Met.ofW (cc := b_D_init) (maxL := 1) (ret := (Option.none : Option Jvm.ClassFile.FieldType)) (by decide) rfl ?_
  intro pg en st mm ar bw me co s₁ B hml hv
  obtain ⟨rfl, hsz, hP, hK, hD0, hN⟩ := hv
  have hx := B.exec
  have hb := B.bytes
  have hr := B.returns
  have hlocks := B.notSynchronized
  have hts0 := atoms_spec (ws := w_D_init) B.pre
  have hts : ∀ w ∈ gw, w.before _ st = true := fun w h => hts0 w (List.mem_cons_of_mem _ h)
  have hown : st.vm.findClass R_D = some mm.cls := findClass_of_methodNamed B.named
  have hin : me.name = "<init>" := (name_of_methodNamed B.named B.method).1
  subst hsz
  have hD := hD0.self (sz := st.heap.size)
  generalize hAe : va_A [(h0, .inr (3, [.null, .long (lN 0)]))] st.heap.size = A at hD ⊢
  have hA : ∀ q : Nat, st.heap.size ≤ q → A q := fun q h => by rw [← hAe]; exact Or.inr h
  have hS : va_S A st.heap st.heap [] := va_S.rf
  have hl := lv_entry ([.ref h0]) (n := 1) (Nat.le_of_ble_eq_true rfl)
  rw [lg_entry_eq]
  generalize (lg_sl ([.ref h0]) ++ List.replicate (1 - (lg_sl ([.ref h0])).length) Slot.unset).toArray = ls at hl ⊢
  have hl : lv_has ls 1 [(0, .ref h0)] := hl
  refine lv_aload_n hx hb d_D_init_0 rfl (lv_at hl 0 rfl) ?_
  refine wq_obj hx hb hown (hts _ kw_85) (hts _ kw_20) (hts _ kw_21) (hl.1.trans hml.symm) d_D_init_1 (Nat.le_of_ble_eq_true rfl) (Nat.le_of_ble_eq_true rfl) ?_
  refine lv_aload_n hx hb d_D_init_4 rfl (lv_at hl 0 rfl) ?_
  refine lv_bipush (v := nI 33) hx hb d_D_init_5 (by decide) ?_
  refine wq_newL (N := 33) hx hb (hts _ kw_79) hK hP hD hS hA (by decide) (by decide) (by decide) (Nat.le_of_ble_eq_true rfl) (Nat.le_of_ble_eq_true rfl) d_D_init_7 (fun n1 H hP hD hS => ?_)
  have hP : va_P (dC, dI) classes [(h0, .inr (3, [.null, .long (lN 0)])), (n1, .inl (cL, 33, .inr (.inl (fun c => lN (zf c)))))] H := hP
  have hD : va_D A [(h0, .inr (3, [.null, .long (lN 0)])), (n1, .inl (cL, 33, .inr (.inl (fun c => lN (zf c)))))] := hD
  refine va_putF (D := (dC, dI)) (ci := 3) (v := .ref n1) (ty := (.array .long)) (C := R_D) (T := F_D) (N := 2) hx hb hts in_D t_D t_D_ok n_D hown hK hP hD hS 0 rfl rfl 0 (by decide) (hts _ kw_86) (fun _ h9 => h9) rfl hin rfl (by decide +kernel) rfl rfl (Nat.le_of_ble_eq_true rfl) d_D_init_9 (fun H locs hP hD hS => ?_)
  have hP : va_P (dC, dI) classes [(h0, .inr (3, [.ref n1, .long (lN 0)])), (n1, .inl (cL, 33, .inr (.inl (fun c => lN (zf c)))))] H := hP
  have hD : va_D A [(h0, .inr (3, [.ref n1, .long (lN 0)])), (n1, .inl (cL, 33, .inr (.inl (fun c => lN (zf c)))))] := hD
  have hP := hP.sub (ws' := [(h0, .inr (3, [.ref n1, .long (lN 0)])), (n1, .inl (cL, 33, .inr (.inl (fun c => lN (zf c)))))]) [0, 1] rfl
  have hD := hD.sub (ws' := [(h0, .inr (3, [.ref n1, .long (lN 0)])), (n1, .inl (cL, 33, .inr (.inl (fun c => lN (zf c)))))]) [0, 1] (by decide) rfl
  exact W.vret hx hb hr (fun t9 ht hW => ⟨⟨n1, rfl, trivial, by rw [ht]; exact hP, va_K.moved hW.alike hK, hD⟩, hS.F ht⟩) hS.2.2 d_D_init_12
set_option maxHeartbeats 4000000 in
set_option maxRecDepth 100000 in
theorem c_C_init (l : Launch) (dC : Nat → ClassId) (dI : Nat → Nat → Nat) (cI cL : ClassId) (sz : Nat) (h0 : Nat) : Met l y_C_init w_C_init ({ frames := 1, cells := 5, slots := 120, locals := 20 } : Room) (va_Pc [.ref h0] (wq_W (dC, dI) classes [(h0, .inr (2, [.null, .null, .null, .null, .null, .int (nI 0), .int (nI 0), .int (nI 0)]))] [(cI, .int), (cL, .long)] sz)) (va_Qv (fun (u : Nat × Nat × Nat × Nat × Nat) => True) (fun (u : Nat × Nat × Nat × Nat × Nat) t => wq_B (dC, dI) classes [(cI, .int), (cL, .long)] (va_A [(h0, .inr (2, [.null, .null, .null, .null, .null, .int (nI 0), .int (nI 0), .int (nI 0)]))] sz) [(h0, .inr (2, [.ref ((u).1), .ref ((u).2.1), .ref ((u).2.2.1), .ref ((u).2.2.2.1), .ref ((u).2.2.2.2), .int (nI 0), .int (nI 0), .int (nI 0)])), ((u).1, .inl (cI, 24, .inl (fun c => nI (zf c)))), ((u).2.1, .inl (cI, 24, .inl (fun c => nI (zf c)))), ((u).2.2.1, .inl (cI, 24, .inl (fun c => nI (zf c)))), ((u).2.2.2.1, .inl (cI, 16, .inl (fun c => nI (zf c)))), ((u).2.2.2.2, .inl (cL, 32, .inr (.inl (fun c => lN (zf c)))))] t) (va_A [(h0, .inr (2, [.null, .null, .null, .null, .null, .int (nI 0), .int (nI 0), .int (nI 0)]))] sz)) 5 120 (va_A [(h0, .inr (2, [.null, .null, .null, .null, .null, .int (nI 0), .int (nI 0), .int (nI 0)]))] sz) := by
  refine Met.ofW (cc := b_C_init) (maxL := 1) (ret := (Option.none : Option Jvm.ClassFile.FieldType)) (by decide) rfl ?_
  intro pg en st mm ar bw me co s₁ B hml hv
  obtain ⟨rfl, hsz, hP, hK, hD0, hN⟩ := hv
  have hx := B.exec
  have hb := B.bytes
  have hr := B.returns
  have hlocks := B.notSynchronized
  have hts0 := atoms_spec (ws := w_C_init) B.pre
  have hts : ∀ w ∈ gw, w.before _ st = true := fun w h => hts0 w (List.mem_cons_of_mem _ h)
  have hown : st.vm.findClass R_C = some mm.cls := findClass_of_methodNamed B.named
  have hin : me.name = "<init>" := (name_of_methodNamed B.named B.method).1
  subst hsz
  have hD := hD0.self (sz := st.heap.size)
  generalize hAe : va_A [(h0, .inr (2, [.null, .null, .null, .null, .null, .int (nI 0), .int (nI 0), .int (nI 0)]))] st.heap.size = A at hD ⊢
  have hA : ∀ q : Nat, st.heap.size ≤ q → A q := fun q h => by rw [← hAe]; exact Or.inr h
  have hS : va_S A st.heap st.heap [] := va_S.rf
  have hl := lv_entry ([.ref h0]) (n := 1) (Nat.le_of_ble_eq_true rfl)
  rw [lg_entry_eq]
  generalize (lg_sl ([.ref h0]) ++ List.replicate (1 - (lg_sl ([.ref h0])).length) Slot.unset).toArray = ls at hl ⊢
  have hl : lv_has ls 1 [(0, .ref h0)] := hl
  refine lv_aload_n hx hb d_C_init_0 rfl (lv_at hl 0 rfl) ?_
  refine wq_obj hx hb hown (hts _ kw_48) (hts _ kw_20) (hts _ kw_21) (hl.1.trans hml.symm) d_C_init_1 (Nat.le_of_ble_eq_true rfl) (Nat.le_of_ble_eq_true rfl) ?_
  refine lv_aload_n hx hb d_C_init_4 rfl (lv_at hl 0 rfl) ?_
  refine lv_bipush (v := nI 24) hx hb d_C_init_5 (by decide) ?_
  refine wq_newI (N := 24) hx hb (hts _ kw_78) hK hP hD hS hA (by decide) (by decide) (by decide) (Nat.le_of_ble_eq_true rfl) (Nat.le_of_ble_eq_true rfl) d_C_init_7 (fun n1 H hP hD hS => ?_)
  have hP : va_P (dC, dI) classes [(h0, .inr (2, [.null, .null, .null, .null, .null, .int (nI 0), .int (nI 0), .int (nI 0)])), (n1, .inl (cI, 24, .inl (fun c => nI (zf c))))] H := hP
  have hD : va_D A [(h0, .inr (2, [.null, .null, .null, .null, .null, .int (nI 0), .int (nI 0), .int (nI 0)])), (n1, .inl (cI, 24, .inl (fun c => nI (zf c))))] := hD
  refine va_putF (D := (dC, dI)) (ci := 2) (v := .ref n1) (ty := (.array .int)) (C := R_C) (T := F_C) (N := 8) hx hb hts in_C t_C t_C_ok n_C hown hK hP hD hS 0 rfl rfl 0 (by decide) (hts _ kw_49) (fun _ h9 => h9) rfl hin rfl (by decide +kernel) rfl rfl (Nat.le_of_ble_eq_true rfl) d_C_init_9 (fun H locs hP hD hS => ?_)
  have hP : va_P (dC, dI) classes [(h0, .inr (2, [.ref n1, .null, .null, .null, .null, .int (nI 0), .int (nI 0), .int (nI 0)])), (n1, .inl (cI, 24, .inl (fun c => nI (zf c))))] H := hP
  have hD : va_D A [(h0, .inr (2, [.ref n1, .null, .null, .null, .null, .int (nI 0), .int (nI 0), .int (nI 0)])), (n1, .inl (cI, 24, .inl (fun c => nI (zf c))))] := hD
  refine lv_aload_n hx hb d_C_init_12 rfl (lv_at hl 0 rfl) ?_
  refine lv_bipush (v := nI 24) hx hb d_C_init_13 (by decide) ?_
  refine wq_newI (N := 24) hx hb (hts _ kw_78) hK hP hD hS hA (by decide) (by decide) (by decide) (Nat.le_of_ble_eq_true rfl) (Nat.le_of_ble_eq_true rfl) d_C_init_15 (fun n2 H hP hD hS => ?_)
  have hP : va_P (dC, dI) classes [(h0, .inr (2, [.ref n1, .null, .null, .null, .null, .int (nI 0), .int (nI 0), .int (nI 0)])), (n1, .inl (cI, 24, .inl (fun c => nI (zf c)))), (n2, .inl (cI, 24, .inl (fun c => nI (zf c))))] H := hP
  have hD : va_D A [(h0, .inr (2, [.ref n1, .null, .null, .null, .null, .int (nI 0), .int (nI 0), .int (nI 0)])), (n1, .inl (cI, 24, .inl (fun c => nI (zf c)))), (n2, .inl (cI, 24, .inl (fun c => nI (zf c))))] := hD
  refine va_putF (D := (dC, dI)) (ci := 2) (v := .ref n2) (ty := (.array .int)) (C := R_C) (T := F_C) (N := 8) hx hb hts in_C t_C t_C_ok n_C hown hK hP hD hS 0 rfl rfl 1 (by decide) (hts _ kw_50) (fun _ h9 => h9) rfl hin rfl (by decide +kernel) rfl rfl (Nat.le_of_ble_eq_true rfl) d_C_init_17 (fun H locs hP hD hS => ?_)
  have hP : va_P (dC, dI) classes [(h0, .inr (2, [.ref n1, .ref n2, .null, .null, .null, .int (nI 0), .int (nI 0), .int (nI 0)])), (n1, .inl (cI, 24, .inl (fun c => nI (zf c)))), (n2, .inl (cI, 24, .inl (fun c => nI (zf c))))] H := hP
  have hD : va_D A [(h0, .inr (2, [.ref n1, .ref n2, .null, .null, .null, .int (nI 0), .int (nI 0), .int (nI 0)])), (n1, .inl (cI, 24, .inl (fun c => nI (zf c)))), (n2, .inl (cI, 24, .inl (fun c => nI (zf c))))] := hD
  refine lv_aload_n hx hb d_C_init_20 rfl (lv_at hl 0 rfl) ?_
  refine lv_bipush (v := nI 24) hx hb d_C_init_21 (by decide) ?_
  refine wq_newI (N := 24) hx hb (hts _ kw_78) hK hP hD hS hA (by decide) (by decide) (by decide) (Nat.le_of_ble_eq_true rfl) (Nat.le_of_ble_eq_true rfl) d_C_init_23 (fun n3 H hP hD hS => ?_)
  have hP : va_P (dC, dI) classes [(h0, .inr (2, [.ref n1, .ref n2, .null, .null, .null, .int (nI 0), .int (nI 0), .int (nI 0)])), (n1, .inl (cI, 24, .inl (fun c => nI (zf c)))), (n2, .inl (cI, 24, .inl (fun c => nI (zf c)))), (n3, .inl (cI, 24, .inl (fun c => nI (zf c))))] H := hP
  have hD : va_D A [(h0, .inr (2, [.ref n1, .ref n2, .null, .null, .null, .int (nI 0), .int (nI 0), .int (nI 0)])), (n1, .inl (cI, 24, .inl (fun c => nI (zf c)))), (n2, .inl (cI, 24, .inl (fun c => nI (zf c)))), (n3, .inl (cI, 24, .inl (fun c => nI (zf c))))] := hD
  refine va_putF (D := (dC, dI)) (ci := 2) (v := .ref n3) (ty := (.array .int)) (C := R_C) (T := F_C) (N := 8) hx hb hts in_C t_C t_C_ok n_C hown hK hP hD hS 0 rfl rfl 2 (by decide) (hts _ kw_51) (fun _ h9 => h9) rfl hin rfl (by decide +kernel) rfl rfl (Nat.le_of_ble_eq_true rfl) d_C_init_25 (fun H locs hP hD hS => ?_)
  have hP : va_P (dC, dI) classes [(h0, .inr (2, [.ref n1, .ref n2, .ref n3, .null, .null, .int (nI 0), .int (nI 0), .int (nI 0)])), (n1, .inl (cI, 24, .inl (fun c => nI (zf c)))), (n2, .inl (cI, 24, .inl (fun c => nI (zf c)))), (n3, .inl (cI, 24, .inl (fun c => nI (zf c))))] H := hP
  have hD : va_D A [(h0, .inr (2, [.ref n1, .ref n2, .ref n3, .null, .null, .int (nI 0), .int (nI 0), .int (nI 0)])), (n1, .inl (cI, 24, .inl (fun c => nI (zf c)))), (n2, .inl (cI, 24, .inl (fun c => nI (zf c)))), (n3, .inl (cI, 24, .inl (fun c => nI (zf c))))] := hD
  refine lv_aload_n hx hb d_C_init_28 rfl (lv_at hl 0 rfl) ?_
  refine lv_bipush (v := nI 16) hx hb d_C_init_29 (by decide) ?_
  refine wq_newI (N := 16) hx hb (hts _ kw_78) hK hP hD hS hA (by decide) (by decide) (by decide) (Nat.le_of_ble_eq_true rfl) (Nat.le_of_ble_eq_true rfl) d_C_init_31 (fun n4 H hP hD hS => ?_)
  have hP : va_P (dC, dI) classes [(h0, .inr (2, [.ref n1, .ref n2, .ref n3, .null, .null, .int (nI 0), .int (nI 0), .int (nI 0)])), (n1, .inl (cI, 24, .inl (fun c => nI (zf c)))), (n2, .inl (cI, 24, .inl (fun c => nI (zf c)))), (n3, .inl (cI, 24, .inl (fun c => nI (zf c)))), (n4, .inl (cI, 16, .inl (fun c => nI (zf c))))] H := hP
  have hD : va_D A [(h0, .inr (2, [.ref n1, .ref n2, .ref n3, .null, .null, .int (nI 0), .int (nI 0), .int (nI 0)])), (n1, .inl (cI, 24, .inl (fun c => nI (zf c)))), (n2, .inl (cI, 24, .inl (fun c => nI (zf c)))), (n3, .inl (cI, 24, .inl (fun c => nI (zf c)))), (n4, .inl (cI, 16, .inl (fun c => nI (zf c))))] := hD
  refine va_putF (D := (dC, dI)) (ci := 2) (v := .ref n4) (ty := (.array .int)) (C := R_C) (T := F_C) (N := 8) hx hb hts in_C t_C t_C_ok n_C hown hK hP hD hS 0 rfl rfl 3 (by decide) (hts _ kw_52) (fun _ h9 => h9) rfl hin rfl (by decide +kernel) rfl rfl (Nat.le_of_ble_eq_true rfl) d_C_init_33 (fun H locs hP hD hS => ?_)
  have hP : va_P (dC, dI) classes [(h0, .inr (2, [.ref n1, .ref n2, .ref n3, .ref n4, .null, .int (nI 0), .int (nI 0), .int (nI 0)])), (n1, .inl (cI, 24, .inl (fun c => nI (zf c)))), (n2, .inl (cI, 24, .inl (fun c => nI (zf c)))), (n3, .inl (cI, 24, .inl (fun c => nI (zf c)))), (n4, .inl (cI, 16, .inl (fun c => nI (zf c))))] H := hP
  have hD : va_D A [(h0, .inr (2, [.ref n1, .ref n2, .ref n3, .ref n4, .null, .int (nI 0), .int (nI 0), .int (nI 0)])), (n1, .inl (cI, 24, .inl (fun c => nI (zf c)))), (n2, .inl (cI, 24, .inl (fun c => nI (zf c)))), (n3, .inl (cI, 24, .inl (fun c => nI (zf c)))), (n4, .inl (cI, 16, .inl (fun c => nI (zf c))))] := hD
  refine lv_aload_n hx hb d_C_init_36 rfl (lv_at hl 0 rfl) ?_
  refine lv_bipush (v := nI 32) hx hb d_C_init_37 (by decide) ?_
  refine wq_newL (N := 32) hx hb (hts _ kw_79) hK hP hD hS hA (by decide) (by decide) (by decide) (Nat.le_of_ble_eq_true rfl) (Nat.le_of_ble_eq_true rfl) d_C_init_39 (fun n5 H hP hD hS => ?_)
  have hP : va_P (dC, dI) classes [(h0, .inr (2, [.ref n1, .ref n2, .ref n3, .ref n4, .null, .int (nI 0), .int (nI 0), .int (nI 0)])), (n1, .inl (cI, 24, .inl (fun c => nI (zf c)))), (n2, .inl (cI, 24, .inl (fun c => nI (zf c)))), (n3, .inl (cI, 24, .inl (fun c => nI (zf c)))), (n4, .inl (cI, 16, .inl (fun c => nI (zf c)))), (n5, .inl (cL, 32, .inr (.inl (fun c => lN (zf c)))))] H := hP
  have hD : va_D A [(h0, .inr (2, [.ref n1, .ref n2, .ref n3, .ref n4, .null, .int (nI 0), .int (nI 0), .int (nI 0)])), (n1, .inl (cI, 24, .inl (fun c => nI (zf c)))), (n2, .inl (cI, 24, .inl (fun c => nI (zf c)))), (n3, .inl (cI, 24, .inl (fun c => nI (zf c)))), (n4, .inl (cI, 16, .inl (fun c => nI (zf c)))), (n5, .inl (cL, 32, .inr (.inl (fun c => lN (zf c)))))] := hD
  refine va_putF (D := (dC, dI)) (ci := 2) (v := .ref n5) (ty := (.array .long)) (C := R_C) (T := F_C) (N := 8) hx hb hts in_C t_C t_C_ok n_C hown hK hP hD hS 0 rfl rfl 4 (by decide) (hts _ kw_53) (fun _ h9 => h9) rfl hin rfl (by decide +kernel) rfl rfl (Nat.le_of_ble_eq_true rfl) d_C_init_41 (fun H locs hP hD hS => ?_)
  have hP : va_P (dC, dI) classes [(h0, .inr (2, [.ref n1, .ref n2, .ref n3, .ref n4, .ref n5, .int (nI 0), .int (nI 0), .int (nI 0)])), (n1, .inl (cI, 24, .inl (fun c => nI (zf c)))), (n2, .inl (cI, 24, .inl (fun c => nI (zf c)))), (n3, .inl (cI, 24, .inl (fun c => nI (zf c)))), (n4, .inl (cI, 16, .inl (fun c => nI (zf c)))), (n5, .inl (cL, 32, .inr (.inl (fun c => lN (zf c)))))] H := hP
  have hD : va_D A [(h0, .inr (2, [.ref n1, .ref n2, .ref n3, .ref n4, .ref n5, .int (nI 0), .int (nI 0), .int (nI 0)])), (n1, .inl (cI, 24, .inl (fun c => nI (zf c)))), (n2, .inl (cI, 24, .inl (fun c => nI (zf c)))), (n3, .inl (cI, 24, .inl (fun c => nI (zf c)))), (n4, .inl (cI, 16, .inl (fun c => nI (zf c)))), (n5, .inl (cL, 32, .inr (.inl (fun c => lN (zf c)))))] := hD
  exact W.vret hx hb hr (fun t9 ht hW => ⟨⟨(n1, n2, n3, n4, n5), rfl, trivial, by rw [ht]; exact hP, va_K.moved hW.alike hK, hD⟩, hS.F ht⟩) hS.2.2 d_C_init_44
